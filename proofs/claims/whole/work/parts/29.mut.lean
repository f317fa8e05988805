/-! Leaves: what is changed -/
theorem headD_get {l : List Nat} (h : 0 < l.length) : l.headD 0 = l[0] := by
  cases l with
  | nil => simp at h
  | cons y ys => simp
/-- the leaf for a code -/
def lfS (c : Nat) (a : Nat × Nat × Nat) (l : List Nat) : Nat × Nat × Nat := (if l ≠ [] ∧ l.headD 0 < c then a.2.2 else a.1, a.2.1 + l.length, a.2.2 + 1)
def lfN (c : Nat) (L : LL) : Nat := (L.foldl (lfS c) (0, 0, 0)).1
theorem lfS_y {c : Nat} {a : Nat × Nat × Nat} {l : List Nat} (h : l ≠ [] ∧ l.headD 0 < c) : lfS c a l = (a.2.2, a.2.1 + l.length, a.2.2 + 1) := by unfold lfS; rw [if_pos h]
theorem lfS_n {c : Nat} {a : Nat × Nat × Nat} {l : List Nat} (h : ¬ (l ≠ [] ∧ l.headD 0 < c)) : lfS c a l = (a.1, a.2.1 + l.length, a.2.2 + 1) := by unfold lfS; rw [if_neg h]
theorem lfS_k (c : Nat) : ∀ (L : LL) (a : Nat × Nat × Nat), (L.foldl (lfS c) a).2.2 = a.2.2 + L.length ∧ (L.foldl (lfS c) a).2.1 = a.2.1 + L.flatten.length
  | [], a => ⟨rfl, rfl⟩
  | l :: L, a => by
    have := lfS_k c L (lfS c a l)
    rw [List.foldl_cons, this.1, this.2]
    simp only [lfS, List.length_cons, List.flatten_cons, List.length_append]
    omega
theorem lfS_none (c : Nat) : ∀ (L : LL) (a : Nat × Nat × Nat), (∀ x ∈ L.flatten, c < x) → (L.foldl (lfS c) a).1 = a.1
  | [], a, _ => rfl
  | l :: L, a, h => by
    rw [List.foldl_cons, lfS_none c L _ (fun x hx => h x (by rw [List.flatten_cons]; exact List.mem_append_right _ hx))]
    rw [lfS_n]
    rintro ⟨h1, h2⟩
    cases l with
    | nil => exact h1 rfl
    | cons y ys =>
      have := h y (by simp)
      simp only [List.headD_cons] at h2
      omega
theorem lfN_dec {c : Nat} {A B : LL} {l1 l2 : List Nat} (p1 : ∀ x ∈ l1, x < c) (p3 : ∀ x ∈ l2, c < x) (p4 : ∀ x ∈ B.flatten, c < x) (p5 : l1 = [] → A = []) : lfN c (A ++ (l1 ++ l2) :: B) = A.length := by
  unfold lfN
  rw [List.foldl_append, List.foldl_cons, lfS_none c B _ p4]
  have h := (lfS_k c A (0, 0, 0)).1
  cases l1 with
  | nil =>
    have hA := p5 rfl
    subst hA
    rw [lfS_n]
    · rfl
    rintro ⟨h1, h2⟩
    cases l2 with
    | nil => exact h1 rfl
    | cons y ys =>
      have := p3 y (by simp)
      simp only [List.nil_append, List.headD_cons] at h2
      omega
  | cons y ys =>
    have := p1 y (by simp)
    rw [lfS_y ⟨by simp, by simpa using this⟩]
    show (A.foldl (lfS c) (0, 0, 0)).2.2 = A.length
    rw [h]
    simp
section MUT
variable {G : GG} {t page : Nat} {down : Bool} {L : LL}
theorem s_Lv_leafFor (ho : okLv t) (hi : isLv G t page down L) (hn : L.flatten.length ≤ 30) (hln : L.length ≤ 30) (hb : ∀ c ∈ L.flatten, c < 32000) (hne : (∀ l ∈ L, l ≠ []) ∨ L = [[]]) {c : Nat} (hc : c < 2147483648) : f_Lv_leafFor [.ref t, .int (nI c)] (hp G) = some (some (.int (nI (lfN c L))), hp G) := by
  rw [e_Lv_leafFor t _ _ (ob_Lv G ho)]
  have h := for_inv L (fun f i (a : Nat × Nat × Nat) => mm_run p_Lv_leafFor f 7 [.ref t, .int (nI c), .int (nI a.1), .int (nI a.2.1), .int (nI i)] [] (hp G)) (lfS c) (fun i a => a.2.2 = i ∧ a.2.1 = pre L i) (fun a => some (some (.int (nI a.1)), hp G)) (fun f i a hil hI => ?_) (fun f a hI => ?_) (a := (0, 0, 0)) ⟨rfl, rfl⟩ (f := mm_fu) (fu_lt (by omega))
  · exact h.1
  · obtain ⟨a1, a2, a3⟩ := a
    obtain ⟨hI1, hI2⟩ := hI
    dsimp only at hI1 hI2
    subst hI1; subst hI2
    have hps := pre_succ hil
    have hle := pre_le L (a3 + 1)
    refine ⟨?_, rfl, by show pre L a3 + L[a3].length = pre L (a3 + 1); omega⟩
    simp (disch := omega) only [e_Lv_leafFor_7, gg_Lv_leaves _ ho, gg_Lv_entries _ ho, gg_Lv_entry _ ho, gg_Lv_size _ ho, hi.1.1, hi.1.2.1, rr_Lv_size _ ho, hi.2.2 a3 hil, Option.bind_some, n_lt, nI_1, nI_add]
    rw [if_pos hil]
    by_cases h0 : pre L a3 < L.flatten.length
    · rw [if_pos h0]
      simp (disch := omega) only [rr_Lv_entry _ ho, hi.2.1 _ h0, Option.bind_some]
      have hl0 : L[a3] ≠ [] := by
        rcases hne with hne | hne
        · exact hne _ (List.getElem_mem hil)
        · rw [hne] at h0; simp at h0
      have hpos : 0 < L[a3].length := List.length_pos_iff.mpr hl0
      have hg := flat_get hil hpos
      have hhd : L[a3].headD 0 = L[a3][0] := headD_get hpos
      have hb1 := hb _ (List.getElem_mem h0)
      have hg' : L.flatten[pre L a3] = L[a3][0] := hg
      rw [← hg'] at hhd
      by_cases h1 : L.flatten[pre L a3] < c
      · rw [if_pos (by rw [n_lt (by omega) (by omega)]; exact h1), lfS_y ⟨hl0, by rw [hhd]; exact h1⟩]
      · rw [if_neg (by rw [n_lt (by omega) (by omega)]; exact h1), lfS_n (fun q => h1 (by rw [← hhd]; exact q.2))]
    · rw [if_neg h0]
      have hl0 : L[a3] = [] := by
        rcases hne with hne | hne
        · have := pre_step hne hil; omega
        · subst hne
          have : a3 = 0 := by simp at hil; omega
          subst this
          rfl
      rw [lfS_n (fun q => q.1 hl0)]
  · obtain ⟨a1, a2, a3⟩ := a
    simp (disch := omega) only [e_Lv_leafFor_7, gg_Lv_leaves _ ho, hi.1.2.1, Option.bind_some, n_lt]
    rw [if_neg (by omega)]
/-- whether a put would make two leaves of one -/
def splS (page c : Nat) (L : LL) : Bool := !L.isEmpty && decide (page ≤ (L.getD (lfN c L) []).length)
theorem lfN_lt (c : Nat) {L : LL} (h : L ≠ []) : lfN c L < L.length := by
  have key : ∀ (L : LL) (a : Nat × Nat × Nat), a.1 ≤ a.2.2 → (L.foldl (lfS c) a).1 ≤ a.2.2 + L.length ∧ (L ≠ [] → (L.foldl (lfS c) a).1 < a.2.2 + L.length) := by
    intro L
    induction L with
    | nil => intro a ha; exact ⟨by simpa using ha, fun h => absurd rfl h⟩
    | cons l L ih =>
      intro a ha
      have h1 : (lfS c a l).1 ≤ a.2.2 := by
        simp only [lfS]
        split <;> omega
      have hk : (lfS c a l).2.2 = a.2.2 + 1 := rfl
      have h2 := ih (lfS c a l) (by omega)
      rw [List.foldl_cons]
      simp only [List.length_cons]
      by_cases hL : L = []
      · subst hL
        simp only [List.foldl_nil, List.length_nil]
        exact ⟨by omega, fun _ => by omega⟩
      · have := h2.2 hL
        exact ⟨by omega, fun _ => by omega⟩
  have := (key L (0, 0, 0) (Nat.le_refl _)).2 h
  simpa [lfN] using this
theorem s_Lv_wouldSplit (ho : okLv t) (hi : isLv G t page down L) (hk : okL page L) {c : Nat} (hc : c < 2147483648) : f_Lv_wouldSplit [.ref t, .int (nI c)] (hp G) = some (some (.int (if splS page c L then 1 else 0)), hp G) := by
  have hn := hk.2.1
  have hln := hk.len
  have hp8 := hk.1
  rw [e_Lv_wouldSplit t _ _ (ob_Lv G ho)]
  simp (disch := omega) only [gg_Lv_leaves _ ho, gg_Lv_size _ ho, gg_Lv_page _ ho, hi.1.2.1, hi.1.2.2.1, Option.bind_some, s_Lv_leafFor ho hi hn hln (fun c hc => (hk.2.2.2.1 c hc).1) (Or.inl (fun l hl => (hk.2.2.1 l hl).1)) hc, ci_some, n_lit, n_lt]
  unfold splS
  by_cases h0 : L = []
  · subst h0
    simp
  · have hlt := lfN_lt c h0
    have hpos : 0 < L.length := List.length_pos_iff.mpr h0
    have hz : L[lfN c L].length ≤ page := (hk.2.2.1 _ (List.getElem_mem hlt)).2
    rw [if_pos hpos]
    simp (disch := omega) only [rr_Lv_size _ ho, hi.2.2 _ hlt, Option.bind_some, n_lt]
    have he : L.isEmpty = false := by cases L <;> simp_all
    have hgd : L.getD (lfN c L) [] = L[lfN c L] := by simp [List.getD_eq_getElem?_getD, List.getElem?_eq_getElem hlt]
    rw [he, hgd]
    by_cases h1 : L[lfN c L].length < page
    · rw [if_pos h1]
      have : ¬ page ≤ L[lfN c L].length := by omega
      simp [this]
    · rw [if_neg h1]
      have : page ≤ L[lfN c L].length := by omega
      simp [this]
/-- the loop of cut -/
theorem cut_loop (ho : okLv t) {k m : Nat} {v2 : Int32} {m0 : Nat} (hm : m ≤ 29) (hkm : k < m) : ∀ (q j f : Nat), j = k + 1 + q → j ≤ m → q < f → mm_run p_Lv_cut f 14 [.ref t, .int (nI k), .int v2, .int (nI j)] [] (hp (gsa G (t + 2) (shR (G.1 (t + 2)) m j))) = mm_run p_Lv_cut (f - q) 14 [.ref t, .int (nI k), .int v2, .int (nI (k + 1))] [] (hp (gsa G (t + 2) (shR (G.1 (t + 2)) m (k + 1)))) := by
  intro q
  induction q with
  | zero => intro j f h1 h2 h3; subst h1; rfl
  | succ q ih =>
    intro j f h1 h2 h3
    obtain ⟨f, rfl⟩ : ∃ g, f = g + 1 := ⟨f - 1, by omega⟩
    obtain ⟨j, rfl⟩ : ∃ i, j = i + 1 := ⟨j - 1, by omega⟩
    rw [e_Lv_cut_14]
    simp (disch := omega) only [nI_add, n_lt, gg_Lv_size _ ho, Option.bind_some, n_lit, n_sub, n_addneg, Nat.add_sub_cancel]
    rw [if_pos (by omega)]
    simp (disch := omega) only [rr_Lv_size _ ho, uu_Lv_size _ ho, Option.bind_some, gsi_gsa, gsa_i, if_true]
    rw [shR_step (by omega), ih j f (by omega) (by omega) (by omega), show f + 1 - (q + 1) = f - q by omega]
theorem s_Lv_cut (ho : okLv t) {zs1 zs2 : List Nat} {z : Nat} (h3 : G.1 t 3 = nI (zs1 ++ z :: zs2).length) (h4 : G.1 t 4 = nI page) (hp8 : 2 ≤ page ∧ page ≤ 8) (hz : hold (G.1 (t + 2)) (zs1 ++ z :: zs2)) (hl : (zs1 ++ z :: zs2).length ≤ 29) (hzp : (page + 1) / 2 ≤ z ∧ z ≤ 9) : ∃ G', f_Lv_cut [.ref t, .int (nI zs1.length)] (hp G) = some (none, hp G') ∧ G'.1 t = upd (G.1 t) 3 (nI ((zs1 ++ z :: zs2).length + 1)) ∧ G'.1 (t + 1) = G.1 (t + 1) ∧ hold (G'.1 (t + 2)) (zs1 ++ (z - (page + 1) / 2) :: (page + 1) / 2 :: zs2) ∧ eqOff (inR t (t + 3)) G G' := by
  have hlen : (zs1 ++ z :: zs2).length = zs1.length + 1 + zs2.length := by simp; omega
  rw [e_Lv_cut t _ _ (ob_Lv G ho)]
  simp (disch := omega) only [gg_Lv_page _ ho, gg_Lv_leaves _ ho, h3, h4, Option.bind_some, n_lit, nI_add, n_div]
  have hloop := cut_loop (G := G) ho (k := zs1.length) (m := (zs1 ++ z :: zs2).length) (v2 := nI ((page + 1) / 2)) (m0 := 0) hl (by omega) zs2.length (zs1 ++ z :: zs2).length mm_fu (by omega) (Nat.le_refl _) (fu_lt (by omega))
  rw [shR_n, gsa_self] at hloop
  have hf : ∃ g, mm_fu - zs2.length = g + 1 := ⟨mm_fu - zs2.length - 1, by have := fu_lt (n := 40) (by decide); omega⟩
  obtain ⟨g, hg⟩ := hf
  rw [hloop, hg, e_Lv_cut_14]
  simp (disch := omega) only [nI_1, n_lt, gg_Lv_size _ ho, gg_Lv_leaves _ ho, Option.bind_some]
  rw [if_neg (by omega)]
  have hst1 := hold_ins (l1 := zs1 ++ [z]) (l2 := zs2) ((page + 1) / 2) (f := G.1 (t + 2)) (by rw [List.append_assoc]; exact hz)
  have hl1 : (zs1 ++ [z]).length = zs1.length + 1 := by simp
  have hl2 : ((zs1 ++ [z]) ++ zs2).length = (zs1 ++ z :: zs2).length := by simp
  rw [hl1, hl2] at hst1
  have hst1' : hold (upd (shR (G.1 (t + 2)) (zs1 ++ z :: zs2).length (zs1.length + 1)) (zs1.length + 1) (nI ((page + 1) / 2))) (zs1 ++ z :: ((page + 1) / 2 :: zs2)) := by
    rw [List.append_assoc] at hst1
    exact hst1
  simp (disch := omega) only [rr_Lv_size _ ho, uu_Lv_size _ ho, Option.bind_some, gsi_gsa, gsa_i, if_true, gg_Lv_size _ ho, gg_Lv_leaves _ ho, ww_Lv_leaves _ ho, hold_at hst1', n_sub]
  have e3 : (if t = t + 2 then (upd (upd (shR (G.1 (t + 2)) (zs1 ++ z :: zs2).length (zs1.length + 1)) (zs1.length + 1) (nI ((page + 1) / 2))) zs1.length (nI (z - (page + 1) / 2))) else G.1 t) 3 = nI (zs1 ++ z :: zs2).length := by rw [if_neg (by omega)]; exact h3
  refine ⟨_, rfl, ?_, ?_, ?_, ?_⟩
  · rw [gsi_i, if_pos rfl, gsa_i, if_neg (by omega), h3, nI_1]
  · rw [gsi_i, if_neg (by omega), gsa_i, if_neg (by omega)]
  · rw [gsi_i, if_neg (by omega), gsa_i, if_pos rfl]
    exact hold_upd _ hst1'
  · exact (eqOff.gsa _ ⟨by omega, by omega⟩).tr (eqOff.gsi _ _ ⟨by omega, by omega⟩)
theorem put_loop (ho : okLv t) {k n a : Nat} {c : Int32} (hn : n ≤ 29) : ∀ (q j f : Nat), j = a + q → j ≤ n → q < f → mm_run p_Lv_put f 47 [.ref t, .int c, .int (nI k), .int (nI a), .int (nI j)] [] (hp (gsa G (t + 1) (shR (G.1 (t + 1)) n j))) = mm_run p_Lv_put (f - q) 47 [.ref t, .int c, .int (nI k), .int (nI a), .int (nI a)] [] (hp (gsa G (t + 1) (shR (G.1 (t + 1)) n a))) := by
  intro q
  induction q with
  | zero => intro j f h1 h2 h3; subst h1; rfl
  | succ q ih =>
    intro j f h1 h2 h3
    obtain ⟨f, rfl⟩ : ∃ g, f = g + 1 := ⟨f - 1, by omega⟩
    obtain ⟨j, rfl⟩ : ∃ i, j = i + 1 := ⟨j - 1, by omega⟩
    rw [e_Lv_put_47]
    simp (disch := omega) only [n_lt, gg_Lv_entry _ ho, Option.bind_some, n_lit, n_sub, n_addneg, Nat.add_sub_cancel]
    rw [if_pos (by omega)]
    simp (disch := omega) only [rr_Lv_entry _ ho, uu_Lv_entry _ ho, Option.bind_some, gsi_gsa, gsa_i, if_true]
    rw [shR_step (by omega), ih j f (by omega) (by omega) (by omega), show f + 1 - (q + 1) = f - q by omega]
theorem tw_dec {e1 e2 : List Nat} {c : Nat} (h1 : ∀ x ∈ e1, x < c) (h2 : ∀ x ∈ e2, c < x) : ((e1 ++ e2).takeWhile (· < c)) = e1 := by
  induction e1 with
  | nil =>
    cases e2 with
    | nil => rfl
    | cons y e2 =>
      have := h2 y (by simp)
      rw [List.nil_append, List.takeWhile_cons]
      simp; omega
  | cons x e1 ih =>
    have := h1 x (by simp)
    rw [List.cons_append, List.takeWhile_cons]
    simp only [this, decide_true, if_true]
    rw [ih (fun y hy => h1 y (List.mem_cons_of_mem _ hy))]
/-- put, behind the first leaf's making -/
theorem put_main (ho : okLv t) {A B : LL} {l1 l2 : List Nat} {c : Nat} (hi : isLv G t page down (A ++ (l1 ++ l2) :: B)) (hp8 : 2 ≤ page ∧ page ≤ 8) (hn : (A ++ (l1 ++ l2) :: B).flatten.length ≤ 29) (hln : (A ++ (l1 ++ l2) :: B).length ≤ 29) (hb : ∀ x ∈ (A ++ (l1 ++ l2) :: B).flatten, x < 32000) (hne : (∀ l ∈ A ++ (l1 ++ l2) :: B, l ≠ []) ∨ A ++ (l1 ++ l2) :: B = [[]]) (hc : c < 32000)
    (hlp : (l1 ++ l2).length ≤ page) (p0 : ∀ x ∈ A.flatten, x < c) (p1 : ∀ x ∈ l1, x < c) (p3 : ∀ x ∈ l2, c < x) (p4 : ∀ x ∈ B.flatten, c < x) (p5 : l1 = [] → A = []) :
    ∃ G', (mm_ci (f_Lv_leafFor [.ref t, .int (nI c)] (hp G)) fun x12 h11 => mm_ci (f_Lv_placeOf [.ref t, .int (nI c)] h11) fun x14 h13 => (mm_gi 2 2 h13 t).bind fun x15 => mm_run p_Lv_put mm_fu 47 [.ref t, .int (nI c), .int x12, .int x14, .int x15] [] h13) = some (none, hp G') ∧ isLv G' t page down (A ++ (spl page (l1 ++ c :: l2) ++ B)) ∧ eqOff (inR t (t + 3)) G G' := by
  have hfl : (A ++ (l1 ++ l2) :: B).flatten = (A.flatten ++ l1) ++ (l2 ++ B.flatten) := by simp
  have htw : ((A ++ (l1 ++ l2) :: B).flatten.takeWhile (· < c)).length = (A.flatten ++ l1).length := by
    rw [hfl, tw_dec (fun x hx => (List.mem_append.mp hx).elim (p0 x) (p1 x)) (fun x hx => (List.mem_append.mp hx).elim (p3 x) (p4 x))]
  rw [s_Lv_leafFor ho hi (by omega) (by omega) hb hne (by omega), ci_some, s_Lv_placeOf ho hi (by omega) hb (by omega), ci_some, lfN_dec p1 p3 p4 p5, htw]
  rw [isLv_iff] at hi
  obtain ⟨⟨i2, i3, i4, i5⟩, hE, hZ⟩ := hi
  simp only [gg_Lv_entries _ ho, i2, Option.bind_some]
  have hN : (A ++ (l1 ++ l2) :: B).flatten.length = (A.flatten ++ l1).length + (l2 ++ B.flatten).length := by rw [hfl, List.length_append]
  have hloop := put_loop (G := G) ho (k := A.length) (c := nI c) (a := (A.flatten ++ l1).length) hn (l2 ++ B.flatten).length (A ++ (l1 ++ l2) :: B).flatten.length mm_fu hN (Nat.le_refl _) (fu_lt (by omega))
  rw [shR_n, gsa_self] at hloop
  obtain ⟨g, hg⟩ : ∃ g, mm_fu - (l2 ++ B.flatten).length = g + 1 := ⟨mm_fu - (l2 ++ B.flatten).length - 1, by have := fu_lt (n := 40) (by decide); omega⟩
  rw [hloop, hg, e_Lv_put_47]
  simp (disch := omega) only [n_lt, gg_Lv_entry _ ho, gg_Lv_entries _ ho, gg_Lv_size _ ho, gg_Lv_leaves _ ho, gg_Lv_page _ ho, ww_Lv_entries _ ho, Option.bind_some]
  rw [if_neg (by omega)]
  simp (disch := omega) only [uu_Lv_entry _ ho, Option.bind_some, gsi_gsa]
  -- the arrays
  have hE' := hold_ins (l1 := A.flatten ++ l1) (l2 := l2 ++ B.flatten) c (f := G.1 (t + 1)) (by rw [← hfl]; exact hE)
  rw [← hfl] at hE'
  have hmap : (A ++ (l1 ++ l2) :: B).map List.length = A.map List.length ++ (l1 ++ l2).length :: B.map List.length := by simp
  rw [hmap] at hZ
  have hAl : (A.map List.length).length = A.length := by simp
  have hZk : G.1 (t + 2) A.length = nI (l1 ++ l2).length := by have := hold_at hZ; rw [hAl] at this; exact this
  have hAlt : A.length < 30 := by simp only [List.length_append, List.length_cons] at hln; omega
  have hZ' := hold_upd ((l1 ++ l2).length + 1) hZ
  rw [hAl] at hZ'
  have n1 : t ≠ t + 1 := by omega
  have n2 : t + 2 ≠ t + 1 := by omega
  have n3 : t + 2 ≠ t := by omega
  have n4 : t + 1 ≠ t + 2 := by omega
  have n5 : t ≠ t + 2 := by omega
  have n6 : t + 1 ≠ t := by omega
  simp (disch := omega) only [gg_Lv_entries _ ho, ww_Lv_entries _ ho, gg_Lv_size _ ho, gg_Lv_leaves _ ho, gg_Lv_page _ ho, rr_Lv_size _ ho, uu_Lv_size _ ho, Option.bind_some, gsi_i, gsa_i, if_neg n1, if_neg n2, if_neg n3, if_neg n5, if_true, i2, hZk, nI_add, upd_at, upd_ne _ _ (show (4 : Nat) ≠ 2 by decide), upd_ne _ _ (show (3 : Nat) ≠ 2 by decide), i4, i3, n_lt, n_lit]
  -- the state behind, before a cut
  have base : ∀ (G2 : GG), G2 = gsi (gsi (gsa G (t + 1) (upd (shR (G.1 (t + 1)) (A ++ (l1 ++ l2) :: B).flatten.length (A.flatten ++ l1).length) (A.flatten ++ l1).length (nI c))) t 2 (nI ((A ++ (l1 ++ l2) :: B).flatten.length + 1))) (t + 2) A.length (nI ((l1 ++ l2).length + 1)) →
      (G2.1 t 2 = nI ((A ++ (l1 ++ l2) :: B).flatten.length + 1) ∧ G2.1 t 3 = nI (A ++ (l1 ++ l2) :: B).length ∧ G2.1 t 4 = nI page ∧ G2.1 t 5 = (if down then 1 else 0)) ∧ hold (G2.1 (t + 1)) ((A.flatten ++ l1) ++ c :: (l2 ++ B.flatten)) ∧ hold (G2.1 (t + 2)) (A.map List.length ++ ((l1 ++ l2).length + 1) :: B.map List.length) ∧ eqOff (inR t (t + 3)) G G2 := by
    intro G2 e
    subst e
    refine ⟨⟨?_, ?_, ?_, ?_⟩, ?_, ?_, ?_⟩
    · simp only [gsi_i, gsa_i, if_neg n5, if_neg n1, if_true, upd_at]
    · simp only [gsi_i, gsa_i, if_neg n5, if_neg n1, if_true, upd_ne _ _ (show (3 : Nat) ≠ 2 by decide)]; exact i3
    · simp only [gsi_i, gsa_i, if_neg n5, if_neg n1, if_true, upd_ne _ _ (show (4 : Nat) ≠ 2 by decide)]; exact i4
    · simp only [gsi_i, gsa_i, if_neg n5, if_neg n1, if_true, upd_ne _ _ (show (5 : Nat) ≠ 2 by decide)]; exact i5
    · simp only [gsi_i, gsa_i, if_neg n4, if_neg n6, if_true]; exact hE'
    · simp only [gsi_i, gsa_i, if_neg n2, if_neg n3, if_true]; exact hZ'
    · exact ((eqOff.gsa _ ⟨by omega, by omega⟩).tr (eqOff.gsi _ _ ⟨by omega, by omega⟩)).tr (eqOff.gsi _ _ ⟨by omega, by omega⟩)
  obtain ⟨⟨b2, b3, b4, b5⟩, bE, bZ, bO⟩ := base _ rfl
  have hlc : (l1 ++ c :: l2).length = (l1 ++ l2).length + 1 := by simp only [List.length_append, List.length_cons]; omega
  have hff : (A.flatten ++ l1) ++ c :: (l2 ++ B.flatten) = (A ++ (spl page (l1 ++ c :: l2) ++ B)).flatten := by simp [spl_flat]
  have hfn : (A ++ (spl page (l1 ++ c :: l2) ++ B)).flatten.length = (A ++ (l1 ++ l2) :: B).flatten.length + 1 := by
    rw [← hff, hfl]; simp only [List.length_append, List.length_cons]; omega
  by_cases hcut : page < (l1 ++ l2).length + 1
  · rw [if_pos hcut, if_pos (show (A ++ (l1 ++ l2) :: B).length < 30 by omega)]
    have hzl : (A.map List.length ++ ((l1 ++ l2).length + 1) :: B.map List.length).length = (A ++ (l1 ++ l2) :: B).length := by simp
    obtain ⟨G3, c1, c2, c3, c4, c5⟩ := s_Lv_cut (G := _) ho (zs1 := A.map List.length) (z := (l1 ++ l2).length + 1) (zs2 := B.map List.length) (by rw [hzl]; exact b3) b4 hp8 bZ (by rw [hzl]; exact hln) ⟨by omega, by omega⟩
    rw [hAl] at c1
    rw [c1, cv_some]
    refine ⟨G3, rfl, ?_, bO.tr c5⟩
    have hpg : (l1 ++ c :: l2).length = page + 1 := by omega
    have hspl : spl page (l1 ++ c :: l2) = [(l1 ++ c :: l2).take (page + 1 - (page + 1) / 2), (l1 ++ c :: l2).drop (page + 1 - (page + 1) / 2)] := by
      unfold spl; rw [if_pos (by omega), hpg]
    rw [isLv_iff]
    refine ⟨⟨?_, ?_, ?_, ?_⟩, ?_, ?_⟩
    · rw [c2, upd_ne _ _ (by decide), b2, hfn]
    · rw [c2, upd_at, hzl, hspl]
      simp only [List.length_append, List.length_cons, List.length_nil]
      congr 1; omega
    · rw [c2, upd_ne _ _ (by decide), b4]
    · rw [c2, upd_ne _ _ (by decide), b5]
    · rw [c3, ← hff]; exact bE
    · have : (A ++ (spl page (l1 ++ c :: l2) ++ B)).map List.length = A.map List.length ++ ((l1 ++ l2).length + 1 - (page + 1) / 2) :: (page + 1) / 2 :: B.map List.length := by
        rw [hspl]
        simp only [List.map_append, List.map_cons, List.map_nil, List.length_take, List.length_drop, List.cons_append, List.nil_append, hpg]
        congr 2
        · omega
        · congr 1; omega
      rw [this]
      exact c4
  · rw [if_neg hcut]
    refine ⟨_, rfl, ?_, bO⟩
    have hspl : spl page (l1 ++ c :: l2) = [l1 ++ c :: l2] := by unfold spl; rw [if_neg (by omega)]
    rw [isLv_iff]
    refine ⟨⟨?_, ?_, b4, b5⟩, ?_, ?_⟩
    · rw [b2, hfn]
    · rw [b3, hspl]; simp
    · rw [← hff]; exact bE
    · have : (A ++ (spl page (l1 ++ c :: l2) ++ B)).map List.length = A.map List.length ++ ((l1 ++ l2).length + 1) :: B.map List.length := by
        rw [hspl]
        simp only [List.map_append, List.map_cons, List.map_nil, List.cons_append, List.nil_append, hlc]
      rw [this]
      exact bZ
theorem s_Lv_put (ho : okLv t) (hi : isLv G t page down L) (hk : okL page L) (hl : L.flatten.length < 30) {c : Nat} (hc : c < 32000) (hcn : c ∉ L.flatten) : ∃ G', f_Lv_put [.ref t, .int (nI c)] (hp G) = some (none, hp G') ∧ isLv G' t page down (putL page c L) ∧ eqOff (inR t (t + 3)) G G' := by
  have hln := len_flat (fun l hl => (hk.2.2.1 l hl).1)
  rw [e_Lv_put t _ _ (ob_Lv G ho)]
  simp (disch := omega) only [gg_Lv_entries _ ho, gg_Lv_leaves _ ho, hi.1.1, hi.1.2.1, Option.bind_some, n_lit, n_lt, n_eq]
  rw [if_pos hl]
  by_cases h0 : L = []
  · subst h0
    rw [if_pos (show ([] : LL).length = 0 from rfl)]
    simp (disch := omega) only [ww_Lv_leaves _ ho, gg_Lv_size _ ho, uu_Lv_size _ ho, Option.bind_some]
    have hi1 : isLv (gsi (gsi G t 3 (nI 1)) (t + 2) 0 (nI 0)) t page down ([] ++ ([] ++ []) :: []) := by
      obtain ⟨⟨i2, i3, i4, i5⟩, -, -⟩ := hi
      have n5 : t ≠ t + 2 := by omega
      refine ⟨⟨?_, ?_, ?_, ?_⟩, fun i hi => by simp at hi, fun k hk2 => ?_⟩
      · simp only [gsi_i, if_neg n5, if_true, upd_ne _ _ (show (2 : Nat) ≠ 3 by decide)]; exact i2
      · simp only [gsi_i, if_neg n5, if_true, upd_at]; rfl
      · simp only [gsi_i, if_neg n5, if_true, upd_ne _ _ (show (4 : Nat) ≠ 3 by decide)]; exact i4
      · simp only [gsi_i, if_neg n5, if_true, upd_ne _ _ (show (5 : Nat) ≠ 3 by decide)]; exact i5
      · have : k = 0 := by simp at hk2; omega
        subst this
        simp only [gsi_i, if_true, upd_at]
        rfl
    obtain ⟨G', q1, q2, q3⟩ := put_main (c := c) ho hi1 hk.1 (by simp) (by simp) (by simp) (Or.inr rfl) hc (by simp) (by simp) (by simp) (by simp) (by simp) (fun _ => rfl)
    refine ⟨G', q1, ?_, ((eqOff.gsi _ _ ⟨by omega, by omega⟩).tr (eqOff.gsi _ _ ⟨by omega, by omega⟩)).tr q3⟩
    have hp8 := hk.1
    have : spl page [c] = [[c]] := by
      unfold spl
      rw [if_neg (by simp only [List.length_cons, List.length_nil]; omega)]
    simp only [List.nil_append, List.append_nil, this] at q2
    exact q2
  · have hpos : 0 < L.length := List.length_pos_iff.mpr h0
    rw [if_neg (by omega)]
    obtain ⟨A, l1, l2, B, e1, p0, p1, p3, p4, p5, p6⟩ := put_dec page c L h0 (fun l hl => (hk.2.2.1 l hl).1) hk.2.2.2.2.1 hcn
    rw [p6]
    subst e1
    exact put_main ho hi hk.1 (by omega) (by omega) (fun x hx => (hk.2.2.2.1 x hx).1) (Or.inl (fun l hl => (hk.2.2.1 l hl).1)) hc (hk.2.2.1 _ (by simp)).2 p0 p1 p3 p4 p5
end MUT
