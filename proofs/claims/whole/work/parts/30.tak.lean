/-! Leaves: take, pack, copies -/
theorem fil_ne {l : List Nat} {c : Nat} (h : c ∉ l) : l.filter (fun x => !(x == c)) = l := by
  apply List.filter_eq_self.mpr
  intro x hx
  have : x ≠ c := fun e => h (by rw [← e]; exact hx)
  simp [this]
theorem tak_none {c : Nat} : ∀ {L : LL}, (∀ l ∈ L, l ≠ []) → c ∉ L.flatten → takL c L = L
  | [], _, _ => rfl
  | l :: L, hne, hc => by
    have h1 : c ∉ l := fun e => hc (by rw [List.flatten_cons]; exact List.mem_append_left _ e)
    have h2 : c ∉ L.flatten := fun e => hc (by rw [List.flatten_cons]; exact List.mem_append_right _ e)
    have h3 := tak_none (c := c) (fun x hx => hne x (List.mem_cons_of_mem _ hx)) h2
    have h4 : l ≠ [] := hne l List.mem_cons_self
    unfold takL at h3 ⊢
    rw [List.map_cons, List.filter_cons, fil_ne h1, h3]
    have : l.isEmpty = false := by cases l <;> simp_all
    simp [this]
theorem tak_dec {c : Nat} {A B : LL} {l1 l2 : List Nat} (hne : ∀ l ∈ A ++ (l1 ++ c :: l2) :: B, l ≠ []) (h1 : c ∉ A.flatten) (h2 : c ∉ l1) (h3 : c ∉ l2) (h4 : c ∉ B.flatten) : takL c (A ++ (l1 ++ c :: l2) :: B) = A ++ ((if (l1 ++ l2).isEmpty then [] else [l1 ++ l2]) ++ B) := by
  have a := tak_none (c := c) (L := A) (fun x hx => hne x (by simp [hx])) h1
  have b := tak_none (c := c) (L := B) (fun x hx => hne x (by simp [hx])) h4
  unfold takL at a b ⊢
  rw [List.map_append, List.map_cons, List.filter_append, List.filter_cons, a, b, List.filter_append, List.filter_cons, fil_ne h2, fil_ne h3]
  simp only [beq_self_eq_true, Bool.not_true, Bool.false_eq_true, if_false]
  by_cases h : (l1 ++ l2).isEmpty = true
  · simp [h]
  · simp [h]
/-- where a code stands -/
theorem mem_dec {c : Nat} : ∀ {L : LL}, c ∈ L.flatten → L.flatten.Pairwise (· < ·) → ∃ (A : LL) (l1 l2 : List Nat) (B : LL), L = A ++ (l1 ++ c :: l2) :: B ∧ (∀ x ∈ A.flatten, x < c) ∧ (∀ x ∈ l1, x < c) ∧ (∀ x ∈ l2, c < x) ∧ ∀ x ∈ B.flatten, c < x
  | [], h, _ => by simp at h
  | l :: L, h, hs => by
    rw [List.flatten_cons, List.pairwise_append] at hs
    obtain ⟨s1, s2, s3⟩ := hs
    by_cases hl : c ∈ l
    · obtain ⟨l1, l2, rfl⟩ := List.append_of_mem hl
      rw [List.pairwise_append, List.pairwise_cons] at s1
      exact ⟨[], l1, l2, L, rfl, by simp, fun x hx => s1.2.2 x hx c (by simp), fun x hx => s1.2.1.1 x hx, fun x hx => s3 c (by simp) x hx⟩
    · have hL : c ∈ L.flatten := by
        rw [List.flatten_cons] at h
        exact (List.mem_append.mp h).resolve_left hl
      obtain ⟨A, l1, l2, B, e, p1, p2, p3, p4⟩ := mem_dec hL s2
      refine ⟨l :: A, l1, l2, B, by rw [e]; rfl, fun x hx => ?_, p2, p3, p4⟩
      rw [List.flatten_cons] at hx
      rcases List.mem_append.mp hx with hx | hx
      · exact s3 x hx c hL
      · exact p1 x hx
theorem tak_ok {page c : Nat} {L : LL} (hk : okL page L) : okL page (takL c L) := by
  by_cases hc : c ∈ L.flatten
  · obtain ⟨a1, a2, a3, a4, a5, a6⟩ := hk
    obtain ⟨A, l1, l2, B, e, p1, p2, p3, p4⟩ := mem_dec hc a5
    have e2 : takL c L = A ++ ((if (l1 ++ l2).isEmpty then [] else [l1 ++ l2]) ++ B) := by
      rw [e]
      exact tak_dec (fun l hl => (a3 l (by rw [e]; exact hl)).1) (fun h => absurd (p1 c h) (by omega)) (fun h => absurd (p2 c h) (by omega)) (fun h => absurd (p3 c h) (by omega)) (fun h => absurd (p4 c h) (by omega))
    have hf1 : L.flatten = A.flatten ++ (l1 ++ c :: (l2 ++ B.flatten)) := by rw [e]; simp
    have hf2 : (takL c L).flatten = A.flatten ++ (l1 ++ (l2 ++ B.flatten)) := by
      rw [e2]
      by_cases h : (l1 ++ l2).isEmpty = true
      · have h' : l1 = [] ∧ l2 = [] := by simpa using h
        simp [h'.1, h'.2]
      · simp [h]
    have hsub : (takL c L).flatten.Sublist L.flatten := by
      rw [hf1, hf2]
      exact (List.Sublist.refl _).append ((List.Sublist.refl _).append (List.sublist_cons_self _ _))
    refine ⟨a1, Nat.le_trans hsub.length_le a2, fun l hl => ?_, fun x hx => a4 x (hsub.subset hx), a5.sublist hsub, a6.sublist (hsub.map _)⟩
    rw [e2] at hl
    rcases List.mem_append.mp hl with hl | hl
    · exact a3 l (by rw [e]; simp [hl])
    · rcases List.mem_append.mp hl with hl | hl
      · by_cases h : (l1 ++ l2).isEmpty = true
        · simp [h] at hl
        · simp only [h, Bool.false_eq_true, if_false, List.mem_singleton] at hl
          subst hl
          have := (a3 (l1 ++ c :: l2) (by rw [e]; simp)).2
          simp only [List.length_append, List.length_cons] at this ⊢
          exact ⟨by simpa using h, by omega⟩
      · exact a3 l (by rw [e]; simp [hl])
  · rw [tak_none (fun l hl => (hk.2.2.1 l hl).1) hc]
    exact hk
section TAK
variable {G : GG} {t page : Nat} {down : Bool} {L : LL}
theorem close_loop (ho : okLv t) {k m : Nat} (hm : m ≤ 29) (h3 : G.1 t 3 = nI m) : ∀ (q j f : Nat), j + q = m → k ≤ j → q < f → mm_run p_Lv_closeUp f 12 [.ref t, .int (nI j)] [] (hp (gsa G (t + 2) (shL (G.1 (t + 2)) k j))) = some (none, hp (gsa G (t + 2) (shL (G.1 (t + 2)) k m))) := by
  have n5 : t ≠ t + 2 := by omega
  intro q
  induction q with
  | zero =>
    intro j f h1 h2 h4
    obtain ⟨f, rfl⟩ : ∃ g, f = g + 1 := ⟨f - 1, by omega⟩
    have : j = m := by omega
    subst this
    rw [e_Lv_closeUp_12]
    simp (disch := omega) only [gg_Lv_leaves _ ho, gsa_i, if_neg n5, h3, Option.bind_some, n_lt]
    rw [if_neg (by omega)]
  | succ q ih =>
    intro j f h1 h2 h4
    obtain ⟨f, rfl⟩ : ∃ g, f = g + 1 := ⟨f - 1, by omega⟩
    rw [e_Lv_closeUp_12]
    simp (disch := omega) only [gg_Lv_leaves _ ho, gg_Lv_size _ ho, gsa_i, if_neg n5, h3, Option.bind_some, n_lt, nI_1]
    rw [if_pos (by omega)]
    simp (disch := omega) only [rr_Lv_size _ ho, uu_Lv_size _ ho, Option.bind_some, gsi_gsa, gsa_i, if_true]
    rw [shL_step h2, ih (j + 1) f (by omega) (by omega) (by omega)]
theorem s_Lv_closeUp (ho : okLv t) {zs1 zs2 : List Nat} {z : Nat} (h3 : G.1 t 3 = nI (zs1 ++ z :: zs2).length) (hz : hold (G.1 (t + 2)) (zs1 ++ z :: zs2)) (hl : (zs1 ++ z :: zs2).length ≤ 30) : ∃ G', f_Lv_closeUp [.ref t, .int (nI zs1.length)] (hp G) = some (none, hp G') ∧ G'.1 t = upd (G.1 t) 3 (nI (zs1 ++ zs2).length) ∧ G'.1 (t + 1) = G.1 (t + 1) ∧ hold (G'.1 (t + 2)) (zs1 ++ zs2) ∧ eqOff (inR t (t + 3)) G G' := by
  have hlen : (zs1 ++ z :: zs2).length = (zs1 ++ zs2).length + 1 := by simp; omega
  have hlen2 : (zs1 ++ zs2).length = zs1.length + zs2.length := by simp
  rw [e_Lv_closeUp t _ _ (ob_Lv G ho)]
  simp (disch := omega) only [gg_Lv_leaves _ ho, ww_Lv_leaves _ ho, h3, Option.bind_some, n_lit, n_sub, hlen, Nat.add_sub_cancel]
  have n5 : t + 2 ≠ t := by omega
  have n6 : t + 1 ≠ t + 2 := by omega
  have n7 : t + 1 ≠ t := by omega
  have hloop := close_loop (G := gsi G t 3 (nI (zs1 ++ zs2).length)) ho (k := zs1.length) (m := (zs1 ++ zs2).length) (by omega) (by rw [gsi_i, if_pos rfl, upd_at]) zs2.length zs1.length mm_fu (by omega) (Nat.le_refl _) (fu_lt (by omega))
  rw [shL_a, gsa_self] at hloop
  refine ⟨_, hloop, ?_, ?_, ?_, ?_⟩
  · rw [gsa_i, if_neg (by omega), gsi_i, if_pos rfl]
  · rw [gsa_i, if_neg n6, gsi_i, if_neg n7]
  · rw [gsa_i, if_pos rfl, gsi_i, if_neg n5]
    exact hold_del hz
  · exact (eqOff.gsi _ _ ⟨by omega, by omega⟩).tr (eqOff.gsa _ ⟨by omega, by omega⟩)
theorem take_loop (ho : okLv t) {k m a : Nat} (hm : m ≤ 29) (h2 : G.1 t 2 = nI m) : ∀ (q j f : Nat), j + q = m → a ≤ j → q < f → mm_run p_Lv_take f 83 [.ref t, .int (nI k), .int (nI j)] [] (hp (gsa G (t + 1) (shL (G.1 (t + 1)) a j))) = mm_run p_Lv_take (f - q) 83 [.ref t, .int (nI k), .int (nI m)] [] (hp (gsa G (t + 1) (shL (G.1 (t + 1)) a m))) := by
  have n5 : t ≠ t + 1 := by omega
  intro q
  induction q with
  | zero => intro j f h1 h3 h4; have : j = m := by omega
            subst this; rfl
  | succ q ih =>
    intro j f h1 h3 h4
    obtain ⟨f, rfl⟩ : ∃ g, f = g + 1 := ⟨f - 1, by omega⟩
    rw [e_Lv_take_83]
    simp (disch := omega) only [gg_Lv_entries _ ho, gg_Lv_entry _ ho, gsa_i, if_neg n5, h2, Option.bind_some, n_lt, nI_1]
    rw [if_pos (by omega)]
    simp (disch := omega) only [rr_Lv_entry _ ho, uu_Lv_entry _ ho, Option.bind_some, gsi_gsa, gsa_i, if_true]
    rw [shL_step h3, ih (j + 1) f (by omega) (by omega) (by omega), show f + 1 - (q + 1) = f - q by omega]
/-- the leaf is looked for -/
theorem take_find (ho : okLv t) (hi : isLv G t page down L) (hn : L.flatten.length ≤ 30) (hln : L.length ≤ 30) {k a : Nat} (hk : k < L.length) (ha1 : pre L k ≤ a) (ha2 : a < pre L (k + 1)) : ∀ (q j f : Nat), j + q = k → q < f → ∃ g, f - q = g + 1 ∧ mm_run p_Lv_take f 30 [.ref t, .int (nI a), .int (nI j), .int (nI (pre L j))] [] (hp G) = mm_run p_Lv_take g 83 [.ref t, .int (nI k), .int (nI a)] [] (hp (gsi G t 2 (nI (L.flatten.length - 1)))) := by
  intro q
  have hp1 := pre_le L (k + 1)
  induction q with
  | zero =>
    intro j f h1 h2
    obtain ⟨f, rfl⟩ : ∃ g, f = g + 1 := ⟨f - 1, by omega⟩
    have : j = k := by omega
    subst this
    have hps := pre_succ hk
    refine ⟨f, by omega, ?_⟩
    rw [e_Lv_take_30]
    simp (disch := omega) only [gg_Lv_leaves _ ho, gg_Lv_size _ ho, gg_Lv_entries _ ho, ww_Lv_entries _ ho, hi.1.1, hi.1.2.1, rr_Lv_size _ ho, hi.2.2 _ hk, Option.bind_some, n_lit, n_sub, nI_add, n_lt, ← hps]
    by_cases h : j < L.length - 1
    · rw [if_pos h, if_pos ha2]
    · rw [if_neg h]
  | succ q ih =>
    intro j f h1 h2
    obtain ⟨f, rfl⟩ : ∃ g, f = g + 1 := ⟨f - 1, by omega⟩
    have hj : j < L.length := by omega
    have hps := pre_succ hj
    have hpm := pre_mono (L := L) (show j + 1 ≤ k by omega)
    obtain ⟨g, g1, g2⟩ := ih (j + 1) f (by omega) (by omega)
    refine ⟨g, by omega, ?_⟩
    rw [e_Lv_take_30]
    simp (disch := omega) only [gg_Lv_leaves _ ho, gg_Lv_size _ ho, hi.1.2.1, rr_Lv_size _ ho, hi.2.2 _ hj, Option.bind_some, n_lit, n_sub, nI_add, n_lt, ← hps]
    rw [if_pos (by omega), if_neg (by omega), g2]
theorem s_Lv_take (ho : okLv t) (hi : isLv G t page down L) (hk : okL page L) {c : Nat} (hc : c < 2147483648) : ∃ G', f_Lv_take [.ref t, .int (nI c)] (hp G) = some (none, hp G') ∧ isLv G' t page down (takL c L) ∧ eqOff (inR t (t + 3)) G G' := by
  have hn := hk.2.1
  have hln := hk.len
  have hp8 := hk.1
  rw [e_Lv_take t _ _ (ob_Lv G ho), s_Lv_placeOf ho hi hn (fun c hc => (hk.2.2.2.1 c hc).1) hc, ci_some]
  simp (disch := omega) only [gg_Lv_entries _ ho, hi.1.1, Option.bind_some]
  have hle : (L.flatten.takeWhile (· < c)).length ≤ L.flatten.length := (List.takeWhile_prefix _).length_le
  by_cases h : (L.flatten.takeWhile (· < c)).length < L.flatten.length
  · rw [if_pos (by rw [n_lt (by omega) (by omega)]; exact h)]
    simp (disch := omega) only [gg_Lv_entry _ ho, rr_Lv_entry _ ho, hi.2.1 _ h, Option.bind_some]
    have hb := hk.cod h
    by_cases h2 : L.flatten[(L.flatten.takeWhile (· < c)).length] = c
    · rw [if_pos (by rw [h2])]
      have hmem := (tw_at hk.2.2.2.2.1 h).mp h2
      obtain ⟨A, l1, l2, B, e, p1, p2, p3, p4⟩ := mem_dec hmem hk.2.2.2.2.1
      have hfl : L.flatten = (A.flatten ++ l1) ++ c :: (l2 ++ B.flatten) := by rw [e]; simp
      have htw : (L.flatten.takeWhile (· < c)).length = (A.flatten ++ l1).length := by
        rw [hfl]
        congr 1
        have : ∀ (e1 e2 : List Nat), (∀ x ∈ e1, x < c) → (e1 ++ c :: e2).takeWhile (· < c) = e1 := by
          intro e1 e2
          induction e1 with
          | nil => intro _; simp
          | cons x e1 ih =>
            intro hx
            have := hx x (by simp)
            rw [List.cons_append, List.takeWhile_cons]
            simp only [this, decide_true, if_true]
            rw [ih (fun y hy => hx y (List.mem_cons_of_mem _ hy))]
        exact this _ _ (fun x hx => (List.mem_append.mp hx).elim (p1 x) (p2 x))
      have hAl : A.length < L.length := by rw [e]; simp
      have hprA : pre L A.length = A.flatten.length := by unfold pre; rw [e]; simp
      have hprA1 : pre L (A.length + 1) = A.flatten.length + (l1 ++ c :: l2).length := by
        rw [pre_succ hAl, hprA]
        congr 2
        simp [e]
      have hcl : (l1 ++ c :: l2).length = l1.length + 1 + l2.length := by simp; omega
      have hal : (A.flatten ++ l1).length = A.flatten.length + l1.length := by simp
      have hNn : L.flatten.length = (A.flatten ++ l1).length + 1 + (l2 ++ B.flatten).length := by rw [hfl]; simp; omega
      obtain ⟨g, g1, g2⟩ := take_find ho hi hn hln (k := A.length) (a := (A.flatten ++ l1).length) hAl (by omega) (by omega) A.length 0 mm_fu (by omega) (fu_lt (by omega))
      rw [htw]
      rw [pre_0] at g2
      have g2' : mm_run p_Lv_take mm_fu 30 [.ref t, .int (nI (A.flatten ++ l1).length), .int 0, .int 0] [] (hp G) = _ := g2
      rw [g2']
      rw [isLv_iff] at hi
      obtain ⟨⟨i2, i3, i4, i5⟩, hE, hZ⟩ := hi
      have n1 : t ≠ t + 1 := by omega
      have n2 : t + 2 ≠ t + 1 := by omega
      have n3 : t + 2 ≠ t := by omega
      have n4 : t + 1 ≠ t + 2 := by omega
      have n5 : t ≠ t + 2 := by omega
      have n6 : t + 1 ≠ t := by omega
      have hloop := take_loop (G := gsi G t 2 (nI (L.flatten.length - 1))) ho (k := A.length) (m := L.flatten.length - 1) (a := (A.flatten ++ l1).length) (by omega) (by rw [gsi_i, if_pos rfl, upd_at]) (l2 ++ B.flatten).length (A.flatten ++ l1).length g (by omega) (Nat.le_refl _) (by have := fu_lt (n := 100) (by decide); omega)
      rw [shL_a, gsa_self] at hloop
      obtain ⟨g', hg'⟩ : ∃ g', g - (l2 ++ B.flatten).length = g' + 1 := ⟨g - (l2 ++ B.flatten).length - 1, by have := fu_lt (n := 100) (by decide); omega⟩
      rw [hloop, hg', e_Lv_take_83]
      have hE1 : (gsi G t 2 (nI (L.flatten.length - 1))).1 (t + 1) = G.1 (t + 1) := by rw [gsi_i, if_neg n6]
      rw [hE1]
      have hmap : L.map List.length = A.map List.length ++ (l1 ++ c :: l2).length :: B.map List.length := by rw [e]; simp
      rw [hmap] at hZ
      have hAm : (A.map List.length).length = A.length := by simp
      have hZk : G.1 (t + 2) A.length = nI (l1 ++ c :: l2).length := by have := hold_at hZ; rw [hAm] at this; exact this
      have hE' := hold_del (l1 := A.flatten ++ l1) (l2 := l2 ++ B.flatten) (x := c) (f := G.1 (t + 1)) (by rw [← hfl]; exact hE)
      have hll : ((A.flatten ++ l1) ++ (l2 ++ B.flatten)).length = L.flatten.length - 1 := by rw [List.length_append]; omega
      rw [hll] at hE'
      have hZ' := hold_upd ((l1 ++ c :: l2).length - 1) hZ
      rw [hAm] at hZ'
      simp (disch := omega) only [gg_Lv_entries _ ho, gg_Lv_size _ ho, rr_Lv_size _ ho, uu_Lv_size _ ho, Option.bind_some, gsi_i, gsa_i, if_neg n1, if_neg n2, if_neg n3, if_true, upd_at, n_lt, hZk, n_lit, n_sub]
      rw [if_neg (by omega)]
      have hbase : ∀ G2 : GG, G2 = gsi (gsa (gsi G t 2 (nI (L.flatten.length - 1))) (t + 1) (shL (G.1 (t + 1)) (A.flatten ++ l1).length (L.flatten.length - 1))) (t + 2) A.length (nI ((l1 ++ c :: l2).length - 1)) →
          (G2.1 t 2 = nI (L.flatten.length - 1) ∧ G2.1 t 3 = nI L.length ∧ G2.1 t 4 = nI page ∧ G2.1 t 5 = (if down then 1 else 0)) ∧ hold (G2.1 (t + 1)) ((A.flatten ++ l1) ++ (l2 ++ B.flatten)) ∧ hold (G2.1 (t + 2)) (A.map List.length ++ ((l1 ++ c :: l2).length - 1) :: B.map List.length) ∧ eqOff (inR t (t + 3)) G G2 := by
        intro G2 e2
        subst e2
        refine ⟨⟨?_, ?_, ?_, ?_⟩, ?_, ?_, ?_⟩
        · simp only [gsi_i, gsa_i, if_neg n5, if_neg n1, if_true, upd_at]
        · simp only [gsi_i, gsa_i, if_neg n5, if_neg n1, if_true, upd_ne _ _ (show (3 : Nat) ≠ 2 by decide)]; exact i3
        · simp only [gsi_i, gsa_i, if_neg n5, if_neg n1, if_true, upd_ne _ _ (show (4 : Nat) ≠ 2 by decide)]; exact i4
        · simp only [gsi_i, gsa_i, if_neg n5, if_neg n1, if_true, upd_ne _ _ (show (5 : Nat) ≠ 2 by decide)]; exact i5
        · simp only [gsi_i, gsa_i, if_neg n4, if_true]; exact hE'
        · simp only [gsi_i, gsa_i, if_neg n2, if_neg n3, if_true]; exact hZ'
        · exact ((eqOff.gsi _ _ ⟨by omega, by omega⟩).tr (eqOff.gsa _ ⟨by omega, by omega⟩)).tr (eqOff.gsi _ _ ⟨by omega, by omega⟩)
      obtain ⟨⟨b2, b3, b4, b5⟩, bE, bZ, bO⟩ := hbase _ rfl
      have htk : takL c L = A ++ ((if (l1 ++ l2).isEmpty then [] else [l1 ++ l2]) ++ B) := by
        have hne : ∀ l ∈ L, l ≠ [] := fun l hl => (hk.2.2.1 l hl).1
        rw [e] at hne ⊢
        exact tak_dec hne (fun h => absurd (p1 c h) (by omega)) (fun h => absurd (p2 c h) (by omega)) (fun h => absurd (p3 c h) (by omega)) (fun h => absurd (p4 c h) (by omega))
      have hcl2 : (l1 ++ c :: l2).length - 1 = (l1 ++ l2).length := by simp
      by_cases hz : (l1 ++ l2).isEmpty = true
      · have hz' : l1 = [] ∧ l2 = [] := by simpa using hz
        have hz0 : (l1 ++ c :: l2).length - 1 = 0 := by rw [hcl2]; simp [hz'.1, hz'.2]
        rw [if_pos (by rw [hz0])]
        have hzl : (A.map List.length ++ ((l1 ++ c :: l2).length - 1) :: B.map List.length).length = L.length := by rw [e]; simp
        obtain ⟨G3, c1, c2, c3, c4, c5⟩ := s_Lv_closeUp (G := _) ho (zs1 := A.map List.length) (z := (l1 ++ c :: l2).length - 1) (zs2 := B.map List.length) (by rw [hzl]; exact b3) bZ (by rw [hzl]; exact hln)
        rw [hAm] at c1
        rw [c1, cv_some]
        refine ⟨G3, rfl, ?_, bO.tr c5⟩
        rw [htk, if_pos hz, isLv_iff]
        simp only [List.nil_append]
        have hfe : (A ++ B).flatten = (A.flatten ++ l1) ++ (l2 ++ B.flatten) := by simp [hz'.1, hz'.2]
        refine ⟨⟨?_, ?_, ?_, ?_⟩, ?_, ?_⟩
        · rw [c2, upd_ne _ _ (by decide), b2, hfe, hll]
        · rw [c2, upd_at]; simp
        · rw [c2, upd_ne _ _ (by decide), b4]
        · rw [c2, upd_ne _ _ (by decide), b5]
        · rw [c3, hfe]; exact bE
        · rw [List.map_append]; exact c4
      · have hz1 : (l1 ++ l2).length ≠ 0 := by
          intro h0
          exact hz (by simpa using h0)
        have hb8 : (l1 ++ c :: l2).length ≤ page := (hk.2.2.1 (l1 ++ c :: l2) (by rw [e]; simp)).2
        rw [if_neg (fun q => hz1 (by have := n_inj (by omega) (by omega) q; omega))]
        refine ⟨_, rfl, ?_, bO⟩
        rw [htk, if_neg hz, isLv_iff]
        have hfe : (A ++ ([l1 ++ l2] ++ B)).flatten = (A.flatten ++ l1) ++ (l2 ++ B.flatten) := by simp
        refine ⟨⟨?_, ?_, b4, b5⟩, ?_, ?_⟩
        · rw [b2, hfe, hll]
        · rw [b3, e]; simp
        · rw [hfe]; exact bE
        · have : (A ++ ([l1 ++ l2] ++ B)).map List.length = A.map List.length ++ ((l1 ++ c :: l2).length - 1) :: B.map List.length := by rw [hcl2]; simp
          rw [this]
          exact bZ
    · rw [if_neg (fun q => h2 (n_inj (by omega) (by omega) q))]
      refine ⟨G, rfl, ?_, eqOff.rf⟩
      rw [tak_none (fun l hl => (hk.2.2.1 l hl).1) (fun q => h2 ((tw_at hk.2.2.2.2.1 h).mpr q))]
      exact hi
  · rw [if_neg (by rw [n_lt (by omega) (by omega)]; exact h)]
    refine ⟨G, rfl, ?_, eqOff.rf⟩
    rw [tak_none (fun l hl => (hk.2.2.1 l hl).1) (tw_none h)]
    exact hi
end TAK
