/-! LEAFSWEEP (the class): merged, looked at -/
theorem perm_sum {l m : List Nat} (h : l.Perm m) : l.sum = m.sum := by
  induction h with
  | nil => rfl
  | cons x _ ih => simp only [List.sum_cons, ih]
  | swap x y l => simp only [List.sum_cons]; omega
  | trans _ _ ih1 ih2 => exact ih1.trans ih2
theorem mem_sum {l : List Nat} : ∀ {x : Nat}, x ∈ l → x ≤ l.sum := by
  induction l with
  | nil => intro x h; exact absurd h (by simp)
  | cons y l ih =>
    intro x h
    rw [List.sum_cons]
    rcases List.mem_cons.mp h with e | e
    · omega
    · have := ih e; omega
theorem sum_bd {l : List Nat} {b : Nat} : (∀ x ∈ l, x ≤ b) → l.sum ≤ b * l.length := by
  induction l with
  | nil => intro _; simp
  | cons y l ih =>
    intro h
    have h1 := h y List.mem_cons_self
    have h2 := ih (fun x hx => h x (List.mem_cons_of_mem _ hx))
    rw [List.sum_cons, List.length_cons, Nat.mul_succ]
    omega
theorem so_short {l : List Nat} (h : l.length ≤ 1) : so l = l := (so_eq (by
  cases l with
  | nil => exact List.Pairwise.nil
  | cons a t =>
    cases t with
    | nil => exact List.pairwise_singleton _ _
    | cons b t => simp at h) (List.Perm.refl l)).symm
theorem mcR_short {l : List Nat} (h : l.length ≤ 1) : ∀ n, mcR n l = 0
  | 0 => rfl
  | n + 1 => by
    unfold mcR
    rw [so_short h]
    cases l with
    | nil => rfl
    | cons a t =>
      cases t with
      | nil => rfl
      | cons b t => simp at h
section CWM
variable {Z G G' : GG} {p : Nat} {P : PP} {T : TT} {A A' : AS} {U : List AS} {cu : CU} {L : LL} {a : Nat}
theorem rr_lr (G : GG) (ha : a = 35 ∨ a = 36) {i : Nat} (hi : i < 30) : mm_li (hp G) a (nI i) = some (G.1 a i) := by
  rcases ha with e | e <;> subst e
  · exact rr_Bn_left G hi
  · exact rr_Bn_right G hi
theorem uu_lr (G : GG) (ha : a = 35 ∨ a = 36) {i : Nat} (hi : i < 30) (x : Int32) : mm_si (hp G) a (nI i) x = some (hp (gsi G a i x)) := by
  rcases ha with e | e <;> subst e
  · exact uu_Bn_left G hi x
  · exact uu_Bn_right G hi x
/-- sorted upwards -/
theorem b_up (ha : a = 35 ∨ a = 36) {l : List Nat} (hl : isAr G a l) (h30 : l.length ≤ 30) (hlt : ∀ x ∈ l, x < 2147483648) : ∃ G', f_Bn_sortUpwards [.ref a, .int (nI l.length)] (hp G) = some (none, hp G') ∧ isAr G' a (so l) ∧ eqOff (fun n => n = a) G G' := by
  rw [e_Bn_sortUpwards]
  have inner : ∀ (s rest : List Nat) (v : Nat), s.length + 1 + rest.length ≤ 30 → v < 2147483648 → (∀ x ∈ s, x < 2147483648) → s.Pairwise (· ≤ ·) → ∀ (q f : Nat) (G1 : GG) (y : Nat), q ≤ s.length → isAr G1 a (s.take q ++ y :: (s.drop q ++ rest)) → (∀ x ∈ s.drop q, v < x) → q < f → eqOff (fun n => n = a) G G1 → ∃ G' f' q', f ≤ f' + q + 1 ∧ q' ≤ s.length ∧ mm_run p_Bn_sortUpwards f 14 [.ref a, .int (nI l.length), .int (nI s.length), .int (nI v), .int (nI q)] [] (hp G1) = mm_run p_Bn_sortUpwards f' 2 [.ref a, .int (nI l.length), .int (nI (s.length + 1))] [] (hp G') ∧ isAr G' a (s.take q' ++ v :: (s.drop q' ++ rest)) ∧ (∀ x ∈ s.drop q', v < x) ∧ (∀ x ∈ s.take q', x ≤ v) ∧ eqOff (fun n => n = a) G G' := by
    intro s rest v hsl hv hsv hss q
    induction q with
    | zero =>
      intro f G1 y hq hA hd hf hq2
      obtain ⟨f, rfl⟩ : ∃ g, f = g + 1 := ⟨f - 1, by omega⟩
      rw [e_Bn_sortUpwards_14, if_neg (show ¬ (0 : Int32) < nI 0 by decide), uu_lr _ ha (by omega), Option.bind_some, show nI s.length + 1 = nI (s.length + 1) from nI_add _ 1]
      refine ⟨_, f, 0, by omega, Nat.zero_le _, rfl, ?_, hd, fun x hx => absurd hx (by simp), hq2.tr (eqOff.gsi _ _ rfl)⟩
      have := hA.set (k := 0) v
      simpa using this
    | succ q ih =>
      intro f G1 y hq hA hd hf hq2
      obtain ⟨f, rfl⟩ : ∃ g, f = g + 1 := ⟨f - 1, by omega⟩
      have hqs : q < s.length := by omega
      have htl : (s.take (q + 1)).length = q + 1 := by rw [List.length_take]; omega
      have htl0 : (s.take q).length = q := by rw [List.length_take]; omega
      have hcell : G1.1 a q = nI s[q] := by
        have := hA q (by rw [List.length_append, htl]; omega)
        rw [this]
        congr 1
        rw [List.getElem_append_left (by rw [htl]; omega), List.getElem_take]
      have hsq := hsv _ (List.getElem_mem hqs)
      have hset : ∀ w : Nat, (s.take (q + 1) ++ y :: (s.drop (q + 1) ++ rest)).set (q + 1) w = s.take (q + 1) ++ w :: (s.drop (q + 1) ++ rest) := fun w => by
        rw [List.set_append_right _ _ (by rw [htl]; omega), htl, Nat.sub_self]
        rfl
      rw [e_Bn_sortUpwards_14, if_pos (show (0 : Int32) < nI (q + 1) from lp (a := 0) (by omega) (by omega)), show nI (q + 1) - 1 = nI q from n_sub (b := 1) (by omega), rr_lr _ ha (by omega), Option.bind_some, hcell]
      by_cases hc : v < s[q]
      · rw [if_pos (lp hc hsq), Option.bind_some, uu_lr _ ha (by omega), Option.bind_some, show nI (q + 1) + (-1) = nI q from n_addneg (b := 1) (by omega)]
        have hA2 := hA.set (k := q + 1) s[q]
        rw [hset] at hA2
        have e1 : s.take (q + 1) ++ s[q] :: (s.drop (q + 1) ++ rest) = s.take q ++ s[q] :: (s.drop q ++ rest) := by
          rw [show s.take (q + 1) = s.take q ++ [s[q]] from (List.take_append_getElem hqs).symm, drop_cons hqs]
          simp only [List.append_assoc, List.cons_append, List.nil_append]
        rw [e1] at hA2
        obtain ⟨G', f', q', r1, r2, r3, r4, r5, r6, r7⟩ := ih f _ s[q] (by omega) hA2 (fun x hx => by
          rw [drop_cons hqs] at hx
          rcases List.mem_cons.mp hx with e | e
          · rw [e]; exact hc
          · exact hd x e) (by omega) (hq2.tr (eqOff.gsi _ _ rfl))
        exact ⟨G', f', q', by omega, r2, r3, r4, r5, r6, r7⟩
      · rw [if_neg (lm (by omega) hv), uu_lr _ ha (by omega), Option.bind_some, show nI s.length + 1 = nI (s.length + 1) from nI_add _ 1]
        have hA2 := hA.set (k := q + 1) v
        rw [hset] at hA2
        refine ⟨_, f, q + 1, by omega, hq, rfl, hA2, hd, fun x hx => ?_, hq2.tr (eqOff.gsi _ _ rfl)⟩
        rw [← List.take_append_getElem hqs] at hx
        rcases List.mem_append.mp hx with e | e
        · have := (List.pairwise_append.mp (by rw [← List.take_append_drop q s] at hss; exact hss)).2.2 x e s[q] (by rw [drop_cons hqs]; exact List.mem_cons_self)
          omega
        · have : x = s[q] := by simpa using e
          omega
  have outer : ∀ (j : Nat) (s rest : List Nat) (f : Nat) (G1 : GG), s.length + j = l.length → rest.length = j → 40 * j < f → 1 ≤ s.length → s.Pairwise (· ≤ ·) → (s ++ rest).Perm l → isAr G1 a (s ++ rest) → eqOff (fun n => n = a) G G1 → ∃ G', mm_run p_Bn_sortUpwards f 2 [.ref a, .int (nI l.length), .int (nI s.length)] [] (hp G1) = some (none, hp G') ∧ isAr G' a (so l) ∧ eqOff (fun n => n = a) G G' := by
    intro j
    induction j with
    | zero =>
      intro s rest f G1 hs hr hf h1 hss hpm hA hq
      obtain ⟨f, rfl⟩ : ∃ g, f = g + 1 := ⟨f - 1, by omega⟩
      have hr0 : rest = [] := List.length_eq_zero_iff.mp hr
      rw [hr0, List.append_nil] at hpm hA
      rw [e_Bn_sortUpwards_2, if_neg (lm (by omega) (by omega)), ← so_eq hss hpm]
      exact ⟨G1, rfl, hA, hq⟩
    | succ j ih =>
      intro s rest f G1 hs hr hf h1 hss hpm hA hq
      obtain ⟨f, rfl⟩ : ∃ g, f = g + 1 := ⟨f - 1, by omega⟩
      cases rest with
      | nil => simp at hr
      | cons v rest =>
        rw [List.length_cons] at hr
        have hmem : ∀ x ∈ s ++ v :: rest, x < 2147483648 := fun x hx => hlt x (hpm.mem_iff.mp hx)
        have hv := hmem v (by simp)
        have hcell : G1.1 a s.length = nI v := by
          have := hA s.length (by simp)
          rw [this]
          simp
        rw [e_Bn_sortUpwards_2, if_pos (lp (by omega) (by omega)), rr_lr _ ha (by omega), Option.bind_some, hcell]
        obtain ⟨G', f', q', r1, r2, r3, r4, r5, r6, r7⟩ := inner s rest v (by omega) hv (fun x hx => hmem x (by simp [hx])) hss s.length f G1 v (Nat.le_refl _) (by simpa using hA) (fun x hx => absurd hx (by simp)) (by omega) hq
        rw [r3]
        have hlen : (s.take q' ++ v :: s.drop q').length = s.length + 1 := by
          rw [List.length_append, List.length_cons, List.length_take, List.length_drop]; omega
        have := ih (s.take q' ++ v :: s.drop q') rest f' G' (by omega) (by omega) (by omega) (by omega) (by
          rw [List.pairwise_append]
          have hsp := hss
          rw [← List.take_append_drop q' s, List.pairwise_append] at hsp
          refine ⟨hsp.1, List.pairwise_cons.mpr ⟨fun x hx => by have := r5 x hx; omega, hsp.2.1⟩, fun x hx y hy => ?_⟩
          have h1 := r6 x hx
          rcases List.mem_cons.mp hy with e | e
          · omega
          · have := r5 y e; omega) (by
          refine List.Perm.trans ?_ hpm
          have e1 : (s.take q' ++ v :: s.drop q').Perm (s ++ [v]) := by
            refine List.perm_middle.trans ?_
            rw [List.take_append_drop]
            exact (List.perm_append_singleton v s).symm
          have := e1.append_right rest
          simpa using this) (by simpa using r4) r7
        rw [hlen] at this
        exact this
  by_cases h0 : l.length = 0
  · obtain ⟨f0, hf0⟩ : ∃ g, mm_fu = g + 1 := ⟨mm_fu - 1, by have := @fu_lt 100 (by omega); omega⟩
    rw [hf0, e_Bn_sortUpwards_2, if_neg (show ¬ (1 : Int32) < nI l.length from lm (a := 1) (by omega) (by decide)), so_short (by omega)]
    exact ⟨G, rfl, hl, eqOff.rf⟩
  · cases l with
    | nil => exact absurd rfl h0
    | cons x t =>
      rw [List.length_cons] at h30
      exact outer t.length [x] t mm_fu G (by rw [List.length_cons, List.length_cons, List.length_nil]; omega) rfl (fu_lt (by omega)) (Nat.le_refl _) (List.pairwise_singleton _ _) (List.Perm.refl _) hl eqOff.rf
/-- MERGE COST -/
theorem b_merge {l : List Nat} (hl : isAr G 34 l) (hr : G.1 31 5 = nI l.length) (h30 : l.length ≤ 30) (hs : l.sum ≤ 1000) : ∃ G', f_Bn_mergeCost [.ref 31] (hp G) = some (some (.int (nI (mcR l.length l))), hp G') ∧ eqOff bnR G G' := by
  have hcp : mm_cp (hp G) 34 0 35 0 30 = some (hp (gsa G 35 (fun k => if k < 30 then G.1 34 k else G.1 35 k))) := hp_cp (show sh 34 = some (.inl (0, 30)) from rfl) (show sh 35 = some (.inl (0, 30)) from rfl) (m := 30) (by decide) (by decide) (by decide)
  rw [e_Bn_mergeCost 31 _ (ob_Bn G), gg_Bn_length, Option.bind_some, gg_Bn_left, Option.bind_some, hcp, Option.bind_some, gg_Bn_runs, Option.bind_some]
  have hl1 : isAr (gsa G 35 (fun k => if k < 30 then G.1 34 k else G.1 35 k)) 35 l := fun i hi => by
    rw [gsa_i, if_pos rfl, if_pos (by omega)]; exact hl i hi
  have hr1 : (gsa G 35 (fun k => if k < 30 then G.1 34 k else G.1 35 k)).1 31 5 = nI l.length := by rw [gsa_i, if_neg (by decide)]; exact hr
  have hq1 : eqOff bnR G (gsa G 35 (fun k => if k < 30 then G.1 34 k else G.1 35 k)) := eqOff.gsa _ (by unfold bnR; omega)
  generalize gsa G 35 (fun k => if k < 30 then G.1 34 k else G.1 35 k) = G1 at hl1 hr1 hq1 ⊢
  rw [hr1]
  have key : ∀ (n : Nat) (l : List Nat) (f : Nat) (c : Nat) (G2 : GG), l.length ≤ 30 → l.sum ≤ 1000 → l.length ≤ n + 1 → n < f → isAr G2 35 l → eqOff bnR G G2 → ∃ G', mm_run p_Bn_mergeCost f 22 [.ref 31, .int (nI c), .int (nI l.length)] [] (hp G2) = some (some (.int (nI (c + mcR n l))), hp G') ∧ eqOff bnR G G' := by
    intro n
    induction n with
    | zero =>
      intro l f c G2 h30 hs hn hf hA hq
      obtain ⟨f, rfl⟩ : ∃ g, f = g + 1 := ⟨f - 1, by omega⟩
      rw [e_Bn_mergeCost_22, if_neg (show ¬ (1 : Int32) < nI l.length from lm (a := 1) (by omega) (by decide))]
      exact ⟨G2, rfl, hq⟩
    | succ n ih =>
      intro l f c G2 h30 hs hn hf hA hq
      obtain ⟨f, rfl⟩ : ∃ g, f = g + 1 := ⟨f - 1, by omega⟩
      by_cases h1 : l.length ≤ 1
      · rw [e_Bn_mergeCost_22, if_neg (show ¬ (1 : Int32) < nI l.length from lm (a := 1) (by omega) (by decide)), mcR_short h1]
        exact ⟨G2, rfl, hq⟩
      · obtain ⟨G3, r1, r2, r3⟩ := b_up (a := 35) (Or.inl rfl) hA h30 (fun x hx => by have := mem_sum hx; omega)
        have hq3 : eqOff bnR G G3 := hq.tr (r3.mono (fun n hn => by unfold bnR; omega))
        have hsl := so_len l
        have hsp := so_perm l
        obtain ⟨a, b, t, hso⟩ : ∃ a b t, so l = a :: b :: t := by
          cases hso : so l with
          | nil => rw [hso] at hsl; simp at hsl; omega
          | cons a s =>
            cases s with
            | nil => rw [hso] at hsl; simp at hsl; omega
            | cons b t => exact ⟨a, b, t, rfl⟩
        rw [hso] at r2 hsl hsp
        rw [List.length_cons, List.length_cons] at hsl
        rw [e_Bn_mergeCost_22, if_pos (show (1 : Int32) < nI l.length from lp (a := 1) (by omega) (by omega)), gg_Bn_left, Option.bind_some, r1, cv_some, gg_Bn_left, Option.bind_some, show mm_li (hp G3) 35 (0 : Int32) = some (G3.1 35 0) from rr_Bn_left G3 (i := 0) (by decide), Option.bind_some, Option.bind_some, show mm_li (hp G3) 35 (1 : Int32) = some (G3.1 35 1) from rr_Bn_left G3 (i := 1) (by decide), Option.bind_some, show G3.1 35 0 = nI a from r2 0 (by simp), show G3.1 35 1 = nI b from r2 1 (by simp), i_add, show mm_si (hp G3) 35 (0 : Int32) (nI (a + b)) = some (hp (gsi G3 35 0 (nI (a + b)))) from uu_Bn_left G3 (i := 0) (by decide) _, Option.bind_some]
        have r4 : isAr (gsi G3 35 0 (nI (a + b))) 35 ((a + b) :: b :: t) := r2.set (k := 0) (a + b)
        have hq4 : eqOff bnR G (gsi G3 35 0 (nI (a + b))) := hq3.tr (bn_gsi _ 35 _ _ (by unfold bnR; omega))
        generalize gsi G3 35 0 (nI (a + b)) = G4 at r4 hq4 ⊢
        rw [gg_Bn_left, Option.bind_some, show mm_li (hp G4) 35 (0 : Int32) = some (G4.1 35 0) from rr_Bn_left G4 (i := 0) (by decide), Option.bind_some, show G4.1 35 0 = nI (a + b) from r4 0 (by simp), Option.bind_some, Option.bind_some, show nI l.length - 1 = nI (l.length - 1) from n_sub (b := 1) (by omega), rr_Bn_left _ (by omega), Option.bind_some, r4.at (show l.length - 1 < ((a + b) :: b :: t).length by simp; omega)]
        rw [show mm_si (hp G4) 35 (1 : Int32) (nI (((a + b) :: b :: t).getD (l.length - 1) 0)) = some (hp (gsi G4 35 1 (nI (((a + b) :: b :: t).getD (l.length - 1) 0)))) from uu_Bn_left G4 (i := 1) (by decide) _, Option.bind_some, show nI l.length + (-1) = nI (l.length - 1) from n_addneg (b := 1) (by omega), i_add]
        have r5 := r4.set (k := 1) (((a + b) :: b :: t).getD (l.length - 1) 0)
        have r6 := r5.take (l.length - 1)
        have hq5 : eqOff bnR G (gsi G4 35 1 (nI (((a + b) :: b :: t).getD (l.length - 1) 0))) := hq4.tr (bn_gsi _ 35 _ _ (by unfold bnR; omega))
        have hlt : ((((a + b) :: b :: t).set 1 (((a + b) :: b :: t).getD (l.length - 1) 0)).take (l.length - 1)).length = l.length - 1 := by
          rw [List.length_take, List.length_set, List.length_cons, List.length_cons]; omega
        have hperm : ((((a + b) :: b :: t).set 1 (((a + b) :: b :: t).getD (l.length - 1) 0)).take (l.length - 1)).Perm ((a + b) :: t) := by
          rw [show l.length - 1 = t.length + 1 by omega]
          cases ht : t with
          | nil => exact List.Perm.refl _
          | cons x u =>
            have hne : t ≠ [] := by rw [ht]; simp
            rw [← ht]
            have hlen : t.length = u.length + 1 := by rw [ht]; rfl
            have e1 : ((a + b) :: b :: t).getD (t.length + 1) 0 = t.getLast hne := by
              rw [show t.length + 1 = (u.length + 1) + 1 by omega, List.getD_cons_succ, List.getD_cons_succ, getD_get (by omega), List.getLast_eq_getElem]
              congr 1
              omega
            rw [e1]
            show ((a + b) :: t.getLast hne :: t).take (t.length + 1) |>.Perm _
            rw [List.take_succ_cons]
            refine List.Perm.cons _ ?_
            rw [hlen, List.take_succ_cons]
            have e2 : t.take u.length = t.dropLast := by rw [List.dropLast_eq_take, hlen]; rfl
            rw [e2]
            have := (List.perm_append_singleton (t.getLast hne) t.dropLast).symm
            rw [List.dropLast_concat_getLast hne] at this
            exact this
        have hsum : ((((a + b) :: b :: t).set 1 (((a + b) :: b :: t).getD (l.length - 1) 0)).take (l.length - 1)).sum ≤ 1000 := by
          rw [perm_sum hperm, List.sum_cons]
          have := perm_sum hsp
          rw [List.sum_cons, List.sum_cons] at this
          omega
        obtain ⟨G', v1, v2⟩ := ih _ f (c + (a + b)) _ (by omega) hsum (by omega) (by omega) r6 hq5
        rw [hlt] at v1
        rw [v1, mcR_2 hso, mcR_congr hperm, Nat.add_assoc c]
        exact ⟨G', rfl, v2⟩
  obtain ⟨G', v1, v2⟩ := key l.length l mm_fu 0 G1 h30 hs (by omega) (fu_lt (by omega)) hl1 hq1
  rw [Nat.zero_add] at v1
  exact ⟨G', v1, v2⟩
/-- RUNS, RUN, MERGED -/
def isRm (P : PP) (x m : Int32) : Bool := isIx P x && (!decide (m < 1) && !decide (8 < m))
theorem c_sorted (W : CW Z G p P T A U cu) (x m : Int32) : (isRm P x m = false → f_Ls_sorted [.ref 1, .int x, .int m] (hp G) = some (some (.int 0), hp G)) ∧ (isRm P x m = true → ∃ G', f_Ls_sorted [.ref 1, .int x, .int m] (hp G) = some (some (.int 1), hp G') ∧ CW Z G' p P T A U cu ∧ isAr G' 34 (srtL (doomA P A) (aL A x.toNatClampNeg) m.toNatClampNeg) ∧ G'.1 31 5 = nI (srtL (doomA P A) (aL A x.toNatClampNeg) m.toNatClampNeg).length) := by
  have hn := W.inv.ni
  rw [e_Ls_sorted 1 _ _ _ (ob_Ls G), k_isIndex W, ci_some]
  unfold isRm
  cases hx : isIx P x
  · rw [if_pos (by decide)]
    exact ⟨fun _ => rfl, fun q => by cases q⟩
  · rw [if_neg (by decide)]
    by_cases h1 : m < 1
    · rw [if_pos h1, decide_eq_true h1]
      exact ⟨fun _ => rfl, fun q => by cases q⟩
    by_cases h8 : (8 : Int32) < m
    · rw [if_neg h1, if_pos h8, decide_eq_false h1, decide_eq_true h8]
      exact ⟨fun _ => rfl, fun q => by cases q⟩
    · rw [if_neg h1, if_neg h8, decide_eq_false h1, decide_eq_false h8]
      refine ⟨fun q => (by cases q), fun _ => ?_⟩
      obtain ⟨i, hi, rfl⟩ := (isIx_iff hn x).mp hx
      obtain ⟨k, hk, rfl⟩ := (n_cases m).resolve_left (fun e => h1 (Int32.lt_trans e (by decide)))
      have hk1 : 1 ≤ k := by
        by_cases e : 1 ≤ k
        · exact e
        · exact absurd (show nI k < (1 : Int32) from lp (n := 1) (by omega) (by decide)) h1
      have hk8 : k ≤ 8 := by
        by_cases e : k ≤ 8
        · exact e
        · exact absurd (show (8 : Int32) < nI k from lp (a := 8) (by omega) hk) h8
      have l2 := W.ss.1.1.lo
      obtain ⟨G1, r1, r2, r3, r4⟩ := b_sort (W.ss.ol hi) (W.ss.tr hi) (W.ss.kl hi) (by omega) (doomA P A) hk1 hk8
      rw [gg_Ls_bench, Option.bind_some, W.gn, Option.bind_some, gg_St_trees _ W.ss.os, Option.bind_some, W.ss.gt hi, Option.bind_some, Option.bind_some, s_St_doomed W.ss, ci_some, r1, cv_some, nI_tn (by omega), nI_tn (by omega)]
      exact ⟨G1, rfl, (W.bench r4).1, r2, r3⟩
def runsW (P : PP) (A : AS) (x m : Int32) : Int32 := if isRm P x m then nI (srtL (doomA P A) (aL A x.toNatClampNeg) m.toNatClampNeg).length else -1
def runW (P : PP) (A : AS) (x m v : Int32) : Int32 := if isRm P x m then (if v < 0 then -1 else match (srtL (doomA P A) (aL A x.toNatClampNeg) m.toNatClampNeg)[v.toNatClampNeg]? with
  | some n => nI n
  | none => -1) else -1
def merW (P : PP) (A : AS) (x m : Int32) : Int32 := if isRm P x m then nI (mcR (srtL (doomA P A) (aL A x.toNatClampNeg) m.toNatClampNeg).length (srtL (doomA P A) (aL A x.toNatClampNeg) m.toNatClampNeg)) else -1
theorem isRm_room {x m : Int32} (h : isRm P x m = true) : 1 ≤ m.toNatClampNeg := by
  unfold isRm at h
  simp only [Bool.and_eq_true, Bool.not_eq_true', decide_eq_false_iff_not] at h
  obtain ⟨-, h1, -⟩ := h
  obtain ⟨k, hk, rfl⟩ := (n_cases m).resolve_left (fun e => h1 (Int32.lt_trans e (by decide)))
  rw [nI_tn (by omega)]
  by_cases e : 1 ≤ k
  · exact e
  · exact absurd (show nI k < (1 : Int32) from lp (n := 1) (by omega) (by decide)) h1
theorem k_runs (W : CW Z G p P T A U cu) (x m : Int32) : ∃ G', f_Ls_runs [.ref 1, .int x, .int m] (hp G) = some (some (.int (runsW P A x m)), hp G') ∧ CW Z G' p P T A U cu := by
  obtain ⟨h0, h1⟩ := c_sorted W x m
  rw [e_Ls_runs 1 _ _ _ (ob_Ls G)]
  unfold runsW
  cases hc : isRm P x m
  · rw [h0 hc, ci_some, if_pos rfl]; exact ⟨G, rfl, W⟩
  · obtain ⟨G1, r1, r2, r3, r4⟩ := h1 hc
    rw [r1, ci_some, if_neg (by decide), gg_Ls_bench, Option.bind_some, gg_Bn_runs, Option.bind_some, r4]
    exact ⟨G1, rfl, r2⟩
theorem k_run (W : CW Z G p P T A U cu) (x m v : Int32) : ∃ G', f_Ls_run [.ref 1, .int x, .int m, .int v] (hp G) = some (some (.int (runW P A x m v)), hp G') ∧ CW Z G' p P T A U cu := by
  obtain ⟨h0, h1⟩ := c_sorted W x m
  rw [e_Ls_run 1 _ _ _ _ (ob_Ls G)]
  unfold runW
  cases hc : isRm P x m
  · rw [h0 hc, ci_some, if_pos rfl]; exact ⟨G, rfl, W⟩
  · obtain ⟨G1, r1, r2, r3, r4⟩ := h1 hc
    have hok := srtL_ok (doomA P A) (aL A x.toNatClampNeg) (isRm_room hc)
    rw [r1, ci_some, if_neg (by decide), if_pos (show true = true from rfl)]
    refine ⟨G1, ?_, r2⟩
    by_cases hv : v < 0
    · rw [if_pos hv, if_pos hv]
    obtain ⟨k, hk, rfl⟩ := (n_cases v).resolve_left hv
    rw [if_neg hv, if_neg hv, gg_Ls_bench, Option.bind_some, gg_Bn_runs, Option.bind_some, r4, nI_tn (show k < 2147483648 by omega)]
    generalize srtL (doomA P A) (aL A x.toNatClampNeg) m.toNatClampNeg = l at *
    by_cases hlt : k < l.length
    · rw [if_pos (lp hlt (by omega)), Option.bind_some, gg_Bn_length, Option.bind_some, rr_Bn_length _ (by omega), Option.bind_some, r3 k hlt, List.getElem?_eq_getElem hlt]
    · rw [if_neg (lm (by omega) hk), List.getElem?_eq_none (by omega)]
theorem k_merged (W : CW Z G p P T A U cu) (x m : Int32) : ∃ G', f_Ls_merged [.ref 1, .int x, .int m] (hp G) = some (some (.int (merW P A x m)), hp G') ∧ CW Z G' p P T A U cu := by
  obtain ⟨h0, h1⟩ := c_sorted W x m
  rw [e_Ls_merged 1 _ _ _ (ob_Ls G)]
  unfold merW
  cases hc : isRm P x m
  · rw [h0 hc, ci_some, if_pos rfl]; exact ⟨G, rfl, W⟩
  · obtain ⟨G1, r1, r2, r3, r4⟩ := h1 hc
    have hok := srtL_ok (doomA P A) (aL A x.toNatClampNeg) (isRm_room hc)
    have hsum := sum_bd hok.2
    obtain ⟨G2, s1, s2⟩ := b_merge r3 r4 hok.1 (by
      have : 30 * (srtL (doomA P A) (aL A x.toNatClampNeg) m.toNatClampNeg).length ≤ 30 * 30 := Nat.mul_le_mul_left _ hok.1
      omega)
    rw [r1, ci_some, if_neg (by decide), gg_Ls_bench, Option.bind_some, s1, ci_some]
    exact ⟨G2, rfl, (r2.bench s2).1⟩
end CWM
