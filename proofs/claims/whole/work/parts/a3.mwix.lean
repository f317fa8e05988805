/-! THE REFERENCE: what is read of an INDEX -/
theorem fl_in {A B : LL} {l : List Nat} {q : Nat} (hq1 : 1 ≤ q) (hq : q < l.length) (hlt : A.flatten.length + q < (fl (A ++ l :: B)).length) : ((fl (A ++ l :: B))[A.flatten.length + q] % 2 == 1) = false := by
  cases l with
  | nil => simp at hq
  | cons c cs =>
    obtain ⟨q, rfl⟩ : ∃ s, q = s + 1 := ⟨q - 1, by omega⟩
    simp only [List.length_cons] at hq
    have h1 := fl1_even c cs (q := q) (by omega)
    have h2 : (fl (A ++ (c :: cs) :: B))[A.flatten.length + (q + 1)]? = (fl1 (c :: cs))[q + 1]? := by
      rw [fl_app, fl_cons, List.getElem?_append_right (by rw [fl_len]; omega), fl_len, show A.flatten.length + (q + 1) - A.flatten.length = q + 1 by omega, List.getElem?_append_left (by rw [fl1_len, List.length_cons]; omega)]
    rw [List.getElem?_eq_getElem hlt, List.getElem?_eq_getElem (by rw [fl1_len, List.length_cons]; omega)] at h2
    rw [Option.some.inj h2, h1]
    rfl
theorem fl_st {A B : LL} {l : List Nat} (hl : l ≠ []) (hlt : A.flatten.length < (fl (A ++ l :: B)).length) : ((fl (A ++ l :: B))[A.flatten.length] % 2 == 1) = true := by
  obtain ⟨c, cs, rfl⟩ := List.exists_cons_of_ne_nil hl
  have h2 : (fl (A ++ (c :: cs) :: B))[A.flatten.length]? = some (2 * c + 1) := by
    rw [fl_app, fl_cons, List.getElem?_append_right (by rw [fl_len]; omega), fl_len, Nat.sub_self]
    rfl
  rw [List.getElem?_eq_getElem hlt] at h2
  rw [Option.some.inj h2]
  simp
theorem lfS_noneW (c : Nat) : ∀ (L : LL) (a : Nat × Nat × Nat), (∀ x ∈ L.flatten, c ≤ x) → (L.foldl (lfS c) a).1 = a.1
  | [], a, _ => rfl
  | l :: L, a, h => by
    rw [List.foldl_cons, lfS_noneW c L _ (fun x hx => h x (by rw [List.flatten_cons]; exact List.mem_append_right _ hx))]
    rw [lfS_n]
    rintro ⟨h1, h2⟩
    cases l with
    | nil => exact h1 rfl
    | cons y ys =>
      have := h y (by simp)
      simp only [List.headD_cons] at h2
      omega
theorem lfN_decW {c : Nat} {A B : LL} {l1 l2 : List Nat} (p1 : ∀ x ∈ l1, x < c) (p3 : ∀ x ∈ l2, c ≤ x) (p4 : ∀ x ∈ B.flatten, c ≤ x) (p5 : l1 = [] → A = []) : lfN c (A ++ (l1 ++ l2) :: B) = A.length := by
  unfold lfN
  rw [List.foldl_append, List.foldl_cons, lfS_noneW c B _ p4]
  have h := (lfS_k c A (0, 0, 0)).1
  cases l1 with
  | nil =>
    have hA := p5 rfl
    subst hA
    rw [lfS_n]
    · rfl
    rintro ⟨h1, h2⟩
    cases l2 with
    | nil => exact h1 rfl
    | cons y ys =>
      have := p3 y (by simp)
      simp only [List.nil_append, List.headD_cons] at h2
      omega
  | cons y ys =>
    have := p1 y (by simp)
    rw [lfS_y ⟨by simp, by simpa using this⟩]
    show (A.foldl (lfS c) (0, 0, 0)).2.2 = A.length
    rw [h]
    simp
theorem cut_dec (c : Nat) {L : LL} (h0 : L ≠ []) (hne : ∀ l ∈ L, l ≠ []) (hp1 : L.flatten.Pairwise (· < ·)) : ∃ (A : LL) (l1 l2 : List Nat) (B : LL), L = A ++ (l1 ++ l2) :: B ∧ (∀ x ∈ A.flatten, x < c) ∧ (∀ x ∈ l1, x < c) ∧ (∀ x ∈ l2, c ≤ x) ∧ (∀ x ∈ B.flatten, c ≤ x) ∧ (l1 = [] → A = []) := by
  by_cases hc : c ∈ L.flatten
  · obtain ⟨A, l1, l2, B, e, p1, p2, p3, p4⟩ := mem_dec hc hp1
    by_cases hl : l1 = [] ∧ A ≠ []
    · obtain ⟨hl1, hA⟩ := hl
      obtain ⟨A1, la, hA1⟩ : ∃ A1 la, A = A1 ++ [la] := ⟨A.dropLast, A.getLast hA, (List.dropLast_concat_getLast hA).symm⟩
      subst hA1 hl1
      refine ⟨A1, la, [], (c :: l2) :: B, by rw [e]; simp, fun x hx => p1 x (by simp at hx ⊢; exact Or.inl hx), fun x hx => p1 x (by simp [hx]), by simp, fun x hx => ?_, fun q => ?_⟩
      · rw [List.flatten_cons] at hx
        rcases List.mem_append.mp hx with h | h
        · rcases List.mem_cons.mp h with h | h
          · omega
          · have := p3 x h; omega
        · have := p4 x h; omega
      · exact absurd q (hne la (by rw [e]; simp))
    · refine ⟨A, l1, c :: l2, B, e, p1, p2, fun x hx => ?_, fun x hx => by have := p4 x hx; omega, fun q => ?_⟩
      · rcases List.mem_cons.mp hx with h | h
        · omega
        · have := p3 x h; omega
      · exact Classical.byContradiction fun hA => hl ⟨q, hA⟩
  · obtain ⟨A, l1, l2, B, e1, p1, p2, p3, p4, p5, -⟩ := put_dec 8 c L h0 hne hp1 hc
    exact ⟨A, l1, l2, B, e1, p1, p2, fun x hx => by have := p3 x hx; omega, fun x hx => by have := p4 x hx; omega, p5⟩
theorem bt_foldClr (p : Nat → Bool) {r : Nat} (hr : r < 32) : ∀ (l : List Nat) (a : Int32), bt (l.foldl (fun a c => if bt a (c % 32) && p c then a &&& (sbit (c % 32) ^^^ (-1)) else a &&& (-1)) a) r = (bt a r && !l.any (fun c => p c && decide (r = c % 32)))
  | [], a => by simp
  | c :: l, a => by
    rw [List.foldl_cons, bt_foldClr p hr l, List.any_cons]
    have hc : c % 32 < 32 := Nat.mod_lt _ (by decide)
    cases hp1 : p c
    · rw [Bool.and_false, if_neg (by decide), b_and, b_m1 r hr]; simp
    · cases hb : bt a (c % 32)
      · rw [Bool.false_and, if_neg (by decide), b_and, b_m1 r hr]
        by_cases e : r = c % 32
        · rw [e, hb]; simp
        · simp [e]
      · rw [Bool.true_and, if_pos rfl, b_and, bt_not _ hr, bt_sbit hc hr]
        by_cases e : r = c % 32
        · simp [e]
        · simp [e]
section MWI
variable {Z G G' : GG} {b i page : Nat} {P : PP} {T : TT} {A A' B : AS} {U : List AS} {cu : CU} {L : LL}
theorem MW.sc (W : MW Z G P T A U cu) {k : Nat} (hk : k = 0 ∨ k = 20 ∨ k = 21) (x : Int32) : MW Z (gsi G 618 k x) P T A U cu := by
  refine W.num (g := upd (G.1 618) k x) (by rw [upd_ne _ _ (by omega)]; exact W.2.1.2.1) (upd_ne _ _ (by omega)) ⟨[], by simp⟩ ?_ (fun j hj => upd_ne _ _ (by omega))
  rw [upd_ne _ _ (by omega), upd_ne _ _ (by omega), upd_ne _ _ (by omega)]
  exact W.2.2.2.1
theorem MW.lh (W : MW Z G P T A U cu) (x y : Nat) : MW Z (lhG G x y) P T A U cu := (W.sc (Or.inr (Or.inl rfl)) _).sc (Or.inr (Or.inr rfl)) _
theorem lh_20 (G : GG) (x y : Nat) : (lhG G x y).1 618 20 = nI x := by unfold lhG; rw [gsi_i, if_pos rfl, upd_ne _ _ (by decide), gsi_i, if_pos rfl, upd_at]
theorem lh_21 (G : GG) (x y : Nat) : (lhG G x y).1 618 21 = nI y := by unfold lhG; rw [gsi_i, if_pos rfl, upd_at]
/-- where a leaf begins -/
theorem s_leafStart (hb : b ≤ 9252) (hi : i < 4) (h : isM G (b + 359 + 31 * i) (fl L)) (hk : okL page L) {k : Nat} (hk2 : k < 2147483648) : f_Md_leafStart [.ref 618, .int (nI b), .int (nI i), .int (nI k)] (hp G) = some (some (.int (if k < L.length then nI (L.take k).flatten.length else -1)), hp G) := by
  have h30 := hk.2.1
  have hln := hk.len
  have hM := okM_fl hk
  rw [e_Md_leafStart 618 _ _ _ _ (ob_Md G)]
  have skip : ∀ (A B : LL) (l : List Nat), A ++ l :: B = L → A.length ≠ k → ∀ (j q f : Nat), q + j = l.length → 1 ≤ q → j < f → mm_run p_Md_leafStart f 6 [.ref 618, .int (nI b), .int (nI i), .int (nI k), .int (nI A.length), .int (nI (A.flatten.length + q))] [] (hp G) = mm_run p_Md_leafStart (f - j) 6 [.ref 618, .int (nI b), .int (nI i), .int (nI k), .int (nI A.length), .int (nI (A.flatten.length + l.length))] [] (hp G) := by
    intro A B l e hne j
    have hlA : A.length ≤ L.length := by rw [← e]; simp
    subst e
    have hlen : (fl (A ++ l :: B)).length = A.flatten.length + (l.length + B.flatten.length) := by rw [fl_len]; simp
    have hl30 := hM.1
    induction j with
    | zero => intro q f hq _ _; rw [show q = l.length by omega]; rfl
    | succ j ih =>
      intro q f hq hq1 hf
      obtain ⟨f, rfl⟩ : ∃ g, f = g + 1 := ⟨f - 1, by omega⟩
      have hlt : A.flatten.length + q < (fl (A ++ l :: B)).length := by omega
      rw [e_Md_leafStart_6, s_Md_entries hb hi h, ci_some, if_pos (lp hlt (by omega)), s_Md_isFirst hb hi h hM hlt, ci_some, fl_in hq1 (by omega) hlt, if_pos (show b2 false = 0 from rfl), show nI A.length + 0 = nI A.length from nI_add _ 0, if_neg (ln hne (by omega) hk2), show nI (A.flatten.length + q) + 1 = nI (A.flatten.length + (q + 1)) from nI_add _ 1, ih (q + 1) f (by omega) (by omega) (by omega), show f + 1 - (j + 1) = f - j by omega]
  have key : ∀ (B A : LL) (f : Nat), A ++ B = L → A.length ≤ k → B.flatten.length + 1 < f → mm_run p_Md_leafStart f 6 [.ref 618, .int (nI b), .int (nI i), .int (nI k), .int (nI A.length - 1), .int (nI A.flatten.length)] [] (hp G) = some (some (.int (if k < L.length then nI (L.take k).flatten.length else -1)), hp G) := by
    intro B
    induction B with
    | nil =>
      intro A f e hA hf
      obtain ⟨f, rfl⟩ : ∃ g, f = g + 1 := ⟨f - 1, by omega⟩
      rw [List.append_nil] at e
      subst e
      rw [e_Md_leafStart_6, s_Md_entries hb hi h, ci_some, fl_len, if_neg (lm (Nat.le_refl _) (by omega)), if_neg (by omega)]
    | cons l B ih =>
      intro A f e hA hf
      obtain ⟨f, rfl⟩ : ∃ g, f = g + 1 := ⟨f - 1, by omega⟩
      have hl : l ≠ [] := (hk.2.2.1 l (by rw [← e]; simp)).1
      have hlA : A.length < L.length := by rw [← e]; simp
      have hl1 : 1 ≤ l.length := List.length_pos_iff.mpr hl
      have hlt : A.flatten.length < (fl (A ++ l :: B)).length := by rw [fl_len]; simp; omega
      have hs := skip A B l e
      have hi2 := ih (A ++ [l])
      have hfirst : mm_run p_Md_leafStart (f + 1) 6 [.ref 618, .int (nI b), .int (nI i), .int (nI k), .int (nI A.length - 1), .int (nI A.flatten.length)] [] (hp G) = if nI A.length = nI k then some (some (.int (nI A.flatten.length)), hp G) else mm_run p_Md_leafStart f 6 [.ref 618, .int (nI b), .int (nI i), .int (nI k), .int (nI A.length), .int (nI (A.flatten.length + 1))] [] (hp G) := by
        subst e
        have := hM.1
        rw [e_Md_leafStart_6, s_Md_entries hb hi h, ci_some, if_pos (lp hlt (by omega)), s_Md_isFirst hb hi h hM hlt, ci_some, fl_st hl hlt, if_neg (show ¬ b2 true = 0 by decide), Int32.sub_add_cancel, if_neg (n_nneg hk2), show nI A.flatten.length + 1 = nI (A.flatten.length + 1) from nI_add _ 1]
      rw [hfirst]
      by_cases hAk : A.length = k
      · rw [if_pos (by rw [hAk]), if_pos (by omega), show L.take k = A by rw [← e, ← hAk]; simp]
      · have hfl : (l :: B).flatten.length = l.length + B.flatten.length := by rw [List.flatten_cons, List.length_append]
        rw [if_neg (ln hAk (by omega) hk2), hs hAk (l.length - 1) 1 f (by omega) (by omega) (by omega)]
        have := hi2 (f - (l.length - 1)) (by rw [← e]; simp) (by simp; omega) (by omega)
        rw [show nI (A ++ [l]).length - 1 = nI A.length by rw [List.length_append]; exact n_sub (a := A.length + 1) (b := 1) (by omega), show (A ++ [l]).flatten.length = A.flatten.length + l.length by simp] at this
        exact this
  exact key L [] mm_fu rfl (Nat.zero_le _) (fu_lt (by omega))
theorem MS.lvs (H : MS G b P A) (h : okS P A) (hi : i < pNi P) : f_Md_leaves [.ref 618, .int (nI b), .int (nI i)] (hp G) = some (some (.int (nI (aL A i).length)), hp G) := by
  have hn := h.ni
  rw [s_Md_leaves H.hb (by omega) (H.tr hi) (okM_fl (h.kl hi)), fl_odd (fun l hl => ((h.kl hi).2.2.1 l hl).1)]
theorem MS.hgt (H : MS G b P A) (h : okS P A) (hi : i < pNi P) : f_Md_height [.ref 618, .int (nI b), .int (nI i)] (hp G) = some (some (.int (nI (hg (pPg P) (aL A i).length))), hp G) := by
  have hn := h.ni
  rw [s_Md_height H.pg h.pp.1 H.hb (by omega) (H.tr hi) (okM_fl (h.kl hi)), fl_odd (fun l hl => ((h.kl hi).2.2.1 l hl).1)]
/-- INDEX -/
theorem r_index (W : MW Z G P T A U cu) (x w : Int32) : ∃ G', f_Md_index [.ref 618, .int x, .int w] (hp G) = some (some (.int (idxW P A x w)), hp G') ∧ MW Z G' P T A U cu := by
  have hn := W.inv.ni
  have W1 := W.th 0
  rw [e_Md_index 618 _ _ _ (ob_Md G), ww_Md_thrown, Option.bind_some]
  generalize gsi G 618 0 0 = G1 at W1 ⊢
  refine ⟨G1, ?_, W1⟩
  have H := W1.ms
  have h := W1.inv
  rw [m_isIndex W1, ci_some]
  unfold idxW
  cases hx : isIx P x
  · rw [if_pos (by decide)]; rfl
  · obtain ⟨i, hi, rfl⟩ := (isIx_iff hn x).mp hx
    rw [if_neg (by decide), if_pos (show true = true from rfl), nI_tn (by omega)]
    by_cases e0 : w = 0
    · rw [if_pos e0, if_pos e0, m_kindOf H.hP hn hi, ci_some]
    rw [if_neg e0, if_neg e0]
    by_cases e1 : w = 1
    · rw [if_pos e1, if_pos e1, m_columnAt H.hP hn hi, ci_some]
    rw [if_neg e1, if_neg e1]
    by_cases e2 : w = 2
    · rw [if_pos e2, if_pos e2, show f_Md_entries [.ref 618, .int 0, .int (nI i)] (hp G1) = _ from H.ent h.os hi, ci_some]
    rw [if_neg e2, if_neg e2]
    by_cases e3 : w = 3
    · rw [if_pos e3, if_pos e3, show f_Md_leaves [.ref 618, .int 0, .int (nI i)] (hp G1) = _ from H.lvs h.os hi, ci_some]
    rw [if_neg e3, if_neg e3]
    by_cases e4 : w = 4
    · rw [if_pos e4, if_pos e4, show f_Md_height [.ref 618, .int 0, .int (nI i)] (hp G1) = _ from H.hgt h.os hi, ci_some]
    rw [if_neg e4, if_neg e4]
/-- LEAF, LEFTS -/
theorem MS.lst (H : MS G b P A) (h : okS P A) (hi : i < pNi P) {k : Nat} (hk : k < 2147483648) : f_Md_leafStart [.ref 618, .int (nI b), .int (nI i), .int (nI k)] (hp G) = some (some (.int (if k < (aL A i).length then nI ((aL A i).take k).flatten.length else -1)), hp G) := by
  have hn := h.ni
  exact s_leafStart H.hb (by omega) (H.tr hi) (h.kl hi) hk
theorem take_dec {L : LL} {k : Nat} (hk : k < L.length) : L = L.take k ++ L[k] :: L.drop (k + 1) := by
  rw [← List.drop_eq_getElem_cons hk, List.take_append_drop]
theorem MS.around (H : MS G b P A) (h : okS P A) (hi : i < pNi P) {X Y : LL} {l : List Nat} (e : aL A i = X ++ l :: Y) {q : Nat} (hq : q < l.length) : f_Md_leafAround [.ref 618, .int (nI b), .int (nI i), .int (nI (X.flatten.length + q))] (hp G) = some (none, hp (lhG G X.flatten.length (X.flatten.length + l.length))) := by
  have hn := h.ni
  have hk := h.kl hi
  have ht := H.tr hi
  rw [e] at hk ht
  rw [s_Md_leafAround H.hb (by omega) ht (okM_fl hk) (by rw [fl_len]; simp; omega), low_fl hq, high_fl (fun x hx => (hk.2.2.1 x (by simp [hx])).1) hq]
theorem MS.lhS (H : MS G b P A) (h : okS P A) (x y : Nat) : MS (lhG G x y) b P A := by
  refine H.copy h H.hb (H.hP.fr (mdF.lh (S := fun _ => False) x y)) (fun k hk => ?_)
  unfold lhG
  rw [gsi_i, if_neg (by decide), gsi_i, if_neg (by decide)]
theorem r_leaf (W : MW Z G P T A U cu) (x y z : Int32) : ∃ G', f_Md_leaf [.ref 618, .int x, .int y, .int z] (hp G) = some (some (.int (leafW P A x y z)), hp G') ∧ MW Z G' P T A U cu := by
  have hn := W.inv.ni
  have W1 := W.th 0
  rw [e_Md_leaf 618 _ _ _ _ (ob_Md G), ww_Md_thrown, Option.bind_some]
  generalize gsi G 618 0 0 = G1 at W1 ⊢
  have H := W1.ms
  have h := W1.inv
  rw [m_isIndex W1, ci_some]
  unfold leafW rowAtS
  cases hx : isIx P x
  · rw [if_pos (by decide)]; exact ⟨G1, rfl, W1⟩
  obtain ⟨i, hi, rfl⟩ := (isIx_iff hn x).mp hx
  rw [if_neg (by decide), if_pos (show true = true from rfl), nI_tn (by omega)]
  by_cases hy : y < 0
  · rw [if_pos hy, if_pos hy]; exact ⟨G1, rfl, W1⟩
  obtain ⟨k, hk, rfl⟩ := (n_cases y).resolve_left hy
  rw [if_neg hy, if_neg hy, show f_Md_leafStart [.ref 618, .int 0, .int (nI i), .int (nI k)] (hp G1) = _ from H.lst h.os hi hk, ci_some, nI_tn (by omega)]
  by_cases hkl : k < (aL A i).length
  · have h30 := (h.kl hi).2.1
    have hdec := take_dec hkl
    have hle : ((aL A i).take k).flatten.length + (aL A i)[k].length ≤ (aL A i).flatten.length := by
      have := congrArg (fun L => L.flatten.length) hdec
      simp only [List.flatten_append, List.flatten_cons, List.length_append] at this
      omega
    have hpos : 0 < (aL A i)[k].length := List.length_pos_iff.mpr ((h.kl hi).2.2.1 _ (List.getElem_mem hkl)).1
    have har := H.around h.os hi hdec hpos
    rw [Nat.add_zero] at har
    rw [if_pos hkl, if_neg (n_nneg (by omega)), show f_Md_leafAround [.ref 618, .int 0, .int (nI i), .int (nI ((aL A i).take k).flatten.length)] (hp G1) = _ from har, cv_some, List.getElem?_eq_getElem hkl]
    have W2 := W1.lh ((aL A i).take k).flatten.length (((aL A i).take k).flatten.length + (aL A i)[k].length)
    have e20 := lh_20 G1 ((aL A i).take k).flatten.length (((aL A i).take k).flatten.length + (aL A i)[k].length)
    have e21 := lh_21 G1 ((aL A i).take k).flatten.length (((aL A i).take k).flatten.length + (aL A i)[k].length)
    generalize lhG G1 ((aL A i).take k).flatten.length (((aL A i).take k).flatten.length + (aL A i)[k].length) = G2 at W2 e20 e21 ⊢
    refine ⟨G2, ?_, W2⟩
    show _ = some (some (Value.int (if z < 0 then -1 else match (aL A i)[k][z.toNatClampNeg]? with
      | none => -1
      | some c => nI (c % 32))), hp G2)
    by_cases hz : z < 0
    · rw [if_pos hz, if_pos hz]
    obtain ⟨j, hj, rfl⟩ := (n_cases z).resolve_left hz
    rw [if_neg hz, if_neg hz, gg_Md_high, Option.bind_some, gg_Md_low, Option.bind_some, e20, e21, n_sub (by omega), show ((aL A i).take k).flatten.length + (aL A i)[k].length - ((aL A i).take k).flatten.length = (aL A i)[k].length by omega, nI_tn (by omega)]
    by_cases hjl : j < (aL A i)[k].length
    · have hlt := flat_lt hkl hjl
      rw [if_pos (lp hjl (by omega)), i_add, show f_Md_rowAt [.ref 618, .int 0, .int (nI i), .int (nI (((aL A i).take k).flatten.length + j))] (hp G2) = _ from W2.ms.rat h.os hi hlt, ci_some, flat_get hkl hjl, List.getElem?_eq_getElem hjl]
    · rw [if_neg (lm (by omega) hj), List.getElem?_eq_none (by omega)]
  · rw [if_neg hkl, if_pos (by decide), List.getElem?_eq_none (by omega)]
    exact ⟨G1, rfl, W1⟩
theorem r_lefts (W : MW Z G P T A U cu) (x y : Int32) : ∃ G', f_Md_lefts [.ref 618, .int x, .int y] (hp G) = some (some (.int (lefW P A x y)), hp G') ∧ MW Z G' P T A U cu := by
  have hn := W.inv.ni
  have W1 := W.th 0
  rw [e_Md_lefts 618 _ _ _ (ob_Md G), ww_Md_thrown, Option.bind_some]
  generalize gsi G 618 0 0 = G1 at W1 ⊢
  have H := W1.ms
  have h := W1.inv
  rw [m_isIndex W1, ci_some]
  unfold lefW leftInS
  cases hx : isIx P x
  · rw [if_pos (by decide)]; exact ⟨G1, rfl, W1⟩
  obtain ⟨i, hi, rfl⟩ := (isIx_iff hn x).mp hx
  rw [if_neg (by decide), if_pos (show true = true from rfl), nI_tn (by omega)]
  by_cases hy : y < 0
  · rw [if_pos hy, if_pos hy]; exact ⟨G1, rfl, W1⟩
  obtain ⟨k, hk, rfl⟩ := (n_cases y).resolve_left hy
  rw [if_neg hy, if_neg hy, show f_Md_leafStart [.ref 618, .int 0, .int (nI i), .int (nI k)] (hp G1) = _ from H.lst h.os hi hk, ci_some, nI_tn (by omega)]
  by_cases hkl : k < (aL A i).length
  · have h30 := (h.kl hi).2.1
    have hdec := take_dec hkl
    have hle : ((aL A i).take k).flatten.length + (aL A i)[k].length ≤ (aL A i).flatten.length := by
      have := congrArg (fun L => L.flatten.length) hdec
      simp only [List.flatten_append, List.flatten_cons, List.length_append] at this
      omega
    have hpos : 0 < (aL A i)[k].length := List.length_pos_iff.mpr ((h.kl hi).2.2.1 _ (List.getElem_mem hkl)).1
    have har := H.around h.os hi hdec hpos
    rw [Nat.add_zero] at har
    rw [if_pos hkl, if_neg (n_nneg (by omega)), show f_Md_leafAround [.ref 618, .int 0, .int (nI i), .int (nI ((aL A i).take k).flatten.length)] (hp G1) = _ from har, cv_some, List.getElem?_eq_getElem hkl]
    have W2 := W1.lh ((aL A i).take k).flatten.length (((aL A i).take k).flatten.length + (aL A i)[k].length)
    have e20 := lh_20 G1 ((aL A i).take k).flatten.length (((aL A i).take k).flatten.length + (aL A i)[k].length)
    have e21 := lh_21 G1 ((aL A i).take k).flatten.length (((aL A i).take k).flatten.length + (aL A i)[k].length)
    generalize lhG G1 ((aL A i).take k).flatten.length (((aL A i).take k).flatten.length + (aL A i)[k].length) = G2 at W2 e20 e21 ⊢
    refine ⟨G2, ?_, W2⟩
    show _ = some (some (Value.int (nI ((aL A i)[k].filter (fun c => bt (doomA P A) (c % 32))).length)), hp G2)
    rw [show f_Md_chosenBy [.ref 618, .int 0] (hp G2) = _ from m_chosenBy W2.ms h, ci_some, gg_Md_low, Option.bind_some, e20]
    have key := for_list (aL A i)[k] (fun f j (a : Nat) => mm_run p_Md_lefts f 58 [.ref 618, .int (nI i), .int (doomA P A), .int (nI a), .int (nI (((aL A i).take k).flatten.length + j))] [] (hp G2)) (fun a c => a + (if bt (doomA P A) (c % 32) then 1 else 0)) (fun a => some (some (Value.int (nI a)), hp G2)) (fun f j a hj => by
      show mm_run p_Md_lefts (f + 1) 58 _ [] (hp G2) = _
      have hlt := flat_lt hkl hj
      rw [e_Md_lefts_58, gg_Md_high, Option.bind_some, e21, if_pos (lp (by omega) (by omega)), show f_Md_rowAt [.ref 618, .int 0, .int (nI i), .int (nI (((aL A i).take k).flatten.length + j))] (hp G2) = _ from W2.ms.rat h.os hi hlt, ci_some, flat_get hkl hj, s_Md_has _ (Nat.mod_lt _ (by decide)), ci_some, show nI (((aL A i).take k).flatten.length + j) + 1 = nI (((aL A i).take k).flatten.length + (j + 1)) from nI_add _ 1]
      cases bt (doomA P A) ((aL A i)[k][j] % 32)
      · rw [if_pos (show b2 false = 0 from rfl), show nI a + 0 = nI (a + 0) from nI_add a 0]; rfl
      · rw [if_neg (show ¬ b2 true = 0 by decide), show nI a + 1 = nI (a + 1) from nI_add a 1]; rfl) (fun f a => by
      show mm_run p_Md_lefts (f + 1) 58 _ [] (hp G2) = _
      rw [e_Md_lefts_58, gg_Md_high, Option.bind_some, e21, if_neg (lm (Nat.le_refl _) (by omega))]) 0 (f := mm_fu) (fu_lt (by omega))
    rw [foldl_count, Nat.zero_add] at key
    exact key
  · rw [if_neg hkl, if_pos (by decide), List.getElem?_eq_none (by omega)]
    exact ⟨G1, rfl, W1⟩
/-- FOUND -/
theorem s_havX (H : MS G b P A) (h : INV P A) {s : Int32} (hs : ∀ r, bt s r = true → r < aM A) {k : Nat} (hk : k < 3) (x : Int32) : f_Md_having [.ref 618, .int (nI b), .int s, .int (nI k), .int x] (hp G) = some (some (.int (havX (aV A) s k x)), hp G) := by
  rw [e_Md_having 618 _ _ _ _ _ (ob_Md G)]
  refine msk_loop (n := 30) (p := fun r => bt s r && decide (nI (aV A r k) = x)) (R := fun f r y => mm_run p_Md_having f 6 [.ref 618, .int (nI b), .int s, .int (nI k), .int x, .int y, .int (nI r)] [] (hp G)) (fun f r hr => ?_) (fun f => ?_) (fu_lt (by omega))
  · show mm_run _ _ _ _ _ _ = mm_run _ _ _ _ _ _
    rw [e_Md_having_6, if_pos (show nI r < (30 : Int32) from lp (n := 30) hr (by decide)), s_Md_has s (by omega), ci_some, show nI r + 1 = nI (r + 1) from nI_add r 1, show (1 : Int32) <<< (nI r &&& 31) = sbit r from rfl]
    cases hb1 : bt s r
    · rw [if_pos (by decide), msk_n (by rw [hb1]; rfl), or_zero]
    · rw [if_neg (by decide), m_valueOf H h (hs r hb1) hk, ci_some]
      by_cases e : nI (aV A r k) = x
      · rw [if_pos e, msk_y (by rw [hb1, decide_eq_true e]; rfl)]
      · rw [if_neg e, msk_n (by rw [hb1, decide_eq_false e]; rfl), or_zero]
  · show mm_run _ _ _ _ _ _ = _
    rw [e_Md_having_6, if_neg (show ¬ nI 30 < (30 : Int32) by decide)]
    rfl
theorem m_belongSet (H : MS G 0 P A) (h : INV P A) (hi : i < pNi P) : f_Md_belongSet [.ref 618, .int (nI i)] (hp G) = some (some (.int (msk (belA P A i) (aM A))), hp G) := by
  have hr30 := h.kr.1
  have h2 : G.1 628 2 = nI (aM A) := by have := H.m; rw [Nat.zero_add] at this; exact this
  rw [e_Md_belongSet 618 _ _ (ob_Md G)]
  refine msk_loop (n := aM A) (p := belA P A i) (R := fun f r y => mm_run p_Md_belongSet f 4 [.ref 618, .int (nI i), .int y, .int (nI r)] [] (hp G)) (fun f r hr => ?_) (fun f => ?_) (fu_lt (by omega))
  · show mm_run _ _ _ _ _ _ = mm_run _ _ _ _ _ _
    rw [e_Md_belongSet_4, gg_Md_state, Option.bind_some, show mm_li (hp G) 628 (2 : Int32) = some (G.1 628 2) from rr_Md_state G (i := 2) (by decide), Option.bind_some, h2, if_pos (lp hr (by omega)), show f_Md_belongs [.ref 618, .int 0, .int (nI i), .int (nI r)] (hp G) = _ from m_belongs H h hi hr, ci_some, show nI r + 1 = nI (r + 1) from nI_add r 1, show (1 : Int32) <<< (nI r &&& 31) = sbit r from rfl]
    cases hb1 : belA P A i r
    · rw [if_pos (by decide), msk_n hb1, or_zero]
    · rw [if_neg (by decide), msk_y hb1]
  · show mm_run _ _ _ _ _ _ = _
    rw [e_Md_belongSet_4, gg_Md_state, Option.bind_some, show mm_li (hp G) 628 (2 : Int32) = some (G.1 628 2) from rr_Md_state G (i := 2) (by decide), Option.bind_some, h2, if_neg (lm (Nat.le_refl _) (by omega))]
theorem bt_bel (h : INV P A) {r : Nat} (hr : r < 32) : bt (msk (belA P A i) (aM A)) r = (decide (r < aM A) && belA P A i r) := by
  have := h.kr.1
  rw [bt_msk _ _ (by omega) r hr]
theorem bt_read (h : INV P A) {r : Nat} (hr : r < 32) : bt (readA P A i) r = (decide (r < aM A) && (bt (visA A) r && belA P A i r)) := by
  have := h.kr.1
  unfold readA
  rw [bt_msk _ _ (by omega) r hr]
theorem vis_bel (h : INV P A) : visA A &&& msk (belA P A i) (aM A) = readA P A i := by
  apply b_ext
  intro r hr
  rw [b_and, bt_bel h hr, bt_read h hr]
  cases bt (visA A) r <;> cases decide (r < aM A) <;> cases belA P A i r <;> rfl
theorem r_found (W : MW Z G P T A U cu) (x k : Int32) : ∃ G', f_Md_found [.ref 618, .int x, .int k] (hp G) = some (some (.int (fouW P A x k)), hp G') ∧ MW Z G' P T A U cu := by
  have hn := W.inv.ni
  have W1 := W.th 0
  rw [e_Md_found 618 _ _ _ (ob_Md G), ww_Md_thrown, Option.bind_some]
  generalize gsi G 618 0 0 = G1 at W1 ⊢
  refine ⟨G1, ?_, W1⟩
  have H := W1.ms
  have h := W1.inv
  rw [m_isIndex W1, ci_some]
  unfold fouW
  cases hx : isIx P x
  · rw [if_pos (by decide)]; rfl
  · obtain ⟨i, hi, rfl⟩ := (isIx_iff hn x).mp hx
    rw [if_neg (by decide), if_pos (show true = true from rfl), nI_tn (by omega), show f_Md_visible [.ref 618, .int 0] (hp G1) = _ from m_visible H, ci_some, m_columnAt H.hP hn hi, ci_some, show f_Md_having [.ref 618, .int 0, .int (visA A), .int (nI (pCo P i)), .int k] (hp G1) = some (some (.int (havX (aV A) (visA A) (pCo P i) k)), hp G1) from s_havX H h (fun r hr => h.kr.vis hr) (h.pp.2.2.1 i hi).2 k, ci_some, m_belongSet H h hi, ci_some]
    have : havX (aV A) (visA A) (pCo P i) k &&& msk (belA P A i) (aM A) = havX (aV A) (visA A) (pCo P i) k &&& readA P A i := by
      apply b_ext
      intro r hr
      rw [b_and, b_and, bt_bel h hr, bt_read h hr]
      unfold havX
      rw [bt_msk _ _ (by decide) r hr]
      cases bt (visA A) r <;> cases decide (r < aM A) <;> cases belA P A i r <;> simp
    rw [this]
/-- STALE, SKIPS, MISSING -/
theorem m_entryNow (H : MS G 0 P A) (h : INV P A) (hi : i < pNi P) {r : Nat} (hr : r < aM A) : f_Md_entryNow [.ref 618, .int (nI i), .int (nI r)] (hp G) = some (some (.int (nI (codA P A i r))), hp G) := by
  have hco := (h.pp.2.2.1 i hi).2
  rw [e_Md_entryNow 618 _ _ _ (ob_Md G), m_columnAt H.hP h.ni hi, ci_some, show f_Md_valueOf [.ref 618, .int 0, .int (nI r), .int (nI (pCo P i))] (hp G) = _ from m_valueOf H h hr hco, ci_some, m_entryOf H.hP h.pp hi (h.kr.2.1 r _ hr hco), ci_some]
  rfl
theorem m_staleBy (H : MS G 0 P A) (h : INV P A) (hi : i < pNi P) : f_Md_staleBy [.ref 618, .int (nI i)] (hp G) = some (some (.int (staleA P A i)), hp G) := by
  have hlen := (h.kl hi).2.1
  have hr30 := h.kr.1
  rw [e_Md_staleBy 618 _ _ (ob_Md G), m_belongSet H h hi, ci_some]
  have key := for_list (aL A i).flatten (fun f k (a : Int32) => mm_run p_Md_staleBy f 11 [.ref 618, .int (nI i), .int (msk (belA P A i) (aM A)), .int a, .int (nI k)] [] (hp G)) (fun a c => if bt (aD A) (c % 32) && (decide (codA P A i (c % 32) = c) && belA P A i (c % 32)) then a else a ||| sbit (c % 32)) (fun a => some (some (Value.int a), hp G)) (fun f k a hk => by
    show mm_run p_Md_staleBy (f + 1) 11 _ [] (hp G) = _
    have hcl := (h.kl hi).2.2.2.1 _ (List.getElem_mem hk)
    rw [e_Md_staleBy_11, show f_Md_entries [.ref 618, .int 0, .int (nI i)] (hp G) = _ from H.ent h.os hi, ci_some, if_pos (lp hk (by omega)), show f_Md_rowAt [.ref 618, .int 0, .int (nI i), .int (nI k)] (hp G) = _ from H.rat h.os hi hk, ci_some, gg_Md_state, Option.bind_some, show mm_li (hp G) 628 (0 : Int32) = some (G.1 628 0) from rr_Md_state G (i := 0) (by decide), Option.bind_some, show G.1 628 0 = aD A from H.d, s_Md_has _ (Nat.mod_lt _ (by decide)), ci_some, show nI k + 1 = nI (k + 1) from nI_add k 1, show (1 : Int32) <<< (nI ((aL A i).flatten[k] % 32) &&& 31) = sbit ((aL A i).flatten[k] % 32) from rfl]
    cases hD : bt (aD A) ((aL A i).flatten[k] % 32)
    · rw [if_pos (show b2 false = 0 from rfl), Bool.false_and, if_neg (by decide)]
    · have hm : (aL A i).flatten[k] % 32 < aM A := h.kr.2.2.1 _ hD
      rw [if_neg (show ¬ b2 true = 0 by decide), s_Md_has _ (Nat.mod_lt _ (by decide)), ci_some, bt_bel h (Nat.mod_lt _ (by decide)), decide_eq_true hm, Bool.true_and, Bool.true_and]
      cases hB : belA P A i ((aL A i).flatten[k] % 32)
      · rw [if_pos (show b2 false = 0 from rfl), Bool.and_false, if_neg (by decide)]
      · rw [if_neg (show ¬ b2 true = 0 by decide), m_entryNow H h hi hm, ci_some, show f_Md_entryAt [.ref 618, .int 0, .int (nI i), .int (nI k)] (hp G) = _ from H.eat h.os hi hk, ci_some, Bool.and_true]
        have hc2 := codA_lt h hi hm
        by_cases e : codA P A i ((aL A i).flatten[k] % 32) = (aL A i).flatten[k]
        · rw [if_pos (by rw [e]), if_pos (decide_eq_true e), or_zero]
        · rw [if_neg (ln e (by omega) (by omega)), if_neg (by rw [decide_eq_false e]; decide)]) (fun f a => by
    show mm_run p_Md_staleBy (f + 1) 11 _ [] (hp G) = _
    rw [e_Md_staleBy_11, show f_Md_entries [.ref 618, .int 0, .int (nI i)] (hp G) = _ from H.ent h.os hi, ci_some, if_neg (lm (Nat.le_refl _) (by omega))]) 0 (f := mm_fu) (fu_lt (by omega))
  exact key
theorem r_stale (W : MW Z G P T A U cu) (x : Int32) : ∃ G', f_Md_stale [.ref 618, .int x] (hp G) = some (some (.int (staW P A x)), hp G') ∧ MW Z G' P T A U cu := by
  have hn := W.inv.ni
  have W1 := W.th 0
  rw [e_Md_stale 618 _ _ (ob_Md G), ww_Md_thrown, Option.bind_some]
  generalize gsi G 618 0 0 = G1 at W1 ⊢
  refine ⟨G1, ?_, W1⟩
  rw [m_isIndex W1, ci_some]
  unfold staW
  cases hx : isIx P x
  · rw [if_pos (by decide)]; rfl
  · obtain ⟨i, hi, rfl⟩ := (isIx_iff hn x).mp hx
    rw [if_neg (by decide), if_pos (show true = true from rfl), nI_tn (by omega), m_staleBy W1.ms W1.inv hi, ci_some]
theorem r_skips (W : MW Z G P T A U cu) (x v : Int32) : ∃ G', f_Md_skips [.ref 618, .int x, .int v] (hp G) = some (some (.int (skiW P A x v)), hp G') ∧ MW Z G' P T A U cu := by
  have hn := W.inv.ni
  have W1 := W.th 0
  rw [e_Md_skips 618 _ _ _ (ob_Md G), ww_Md_thrown, Option.bind_some]
  generalize gsi G 618 0 0 = G1 at W1 ⊢
  refine ⟨G1, ?_, W1⟩
  have H := W1.ms
  have h := W1.inv
  rw [m_isIndex W1, ci_some]
  unfold skiW
  cases hx : isIx P x
  · rw [if_pos (by decide)]; rfl
  · obtain ⟨i, hi, rfl⟩ := (isIx_iff hn x).mp hx
    have hlen := (h.kl hi).2.1
    rw [if_neg (by decide), if_pos (show true = true from rfl), nI_tn (by omega), m_staleBy H h hi, ci_some, gg_Md_state, Option.bind_some, show mm_li (hp G1) 628 (1 : Int32) = some (G1.1 628 1) from rr_Md_state G1 (i := 1) (by decide), Option.bind_some, show G1.1 628 1 = aC A by have := H.c; rw [Nat.zero_add] at this; exact this, Int32.or_comm]
    generalize aC A ||| staleA P A i = d
    have key := for_list (aL A i).flatten (fun f k (a : Nat) => mm_run p_Md_skips f 34 [.ref 618, .int (nI i), .int v, .int d, .int (nI a), .int (nI k)] [] (hp G1)) (fun a c => a + (if decide (nI (valD (dnP P i) c) = v) && bt d (c % 32) then 1 else 0)) (fun a => some (some (Value.int (nI a)), hp G1)) (fun f k a hk => by
      show mm_run p_Md_skips (f + 1) 34 _ [] (hp G1) = _
      have hcl := (h.kl hi).2.2.2.1 _ (List.getElem_mem hk)
      rw [e_Md_skips_34, show f_Md_entries [.ref 618, .int 0, .int (nI i)] (hp G1) = _ from H.ent h.os hi, ci_some, if_pos (lp hk (by omega)), show f_Md_rowAt [.ref 618, .int 0, .int (nI i), .int (nI k)] (hp G1) = _ from H.rat h.os hi hk, ci_some, s_Md_has _ (Nat.mod_lt _ (by decide)), ci_some, show nI k + 1 = nI (k + 1) from nI_add k 1, show nI a + 0 = nI (a + 0) from nI_add a 0, show nI a + 1 = nI (a + 1) from nI_add a 1]
      cases bt d ((aL A i).flatten[k] % 32)
      · rw [if_pos (show b2 false = 0 from rfl), Bool.and_false, if_neg (by decide)]
      · rw [if_neg (show ¬ b2 true = 0 by decide), show f_Md_entryAt [.ref 618, .int 0, .int (nI i), .int (nI k)] (hp G1) = _ from H.eat h.os hi hk, ci_some, m_valueIn H.hP h.pp hi hcl.1, ci_some, Bool.and_true]
        by_cases e : nI (valD (dnP P i) (aL A i).flatten[k]) = v
        · rw [if_pos e, if_pos (decide_eq_true e)]
        · rw [if_neg e, if_neg (by rw [decide_eq_false e]; decide)]) (fun f a => by
      show mm_run p_Md_skips (f + 1) 34 _ [] (hp G1) = _
      rw [e_Md_skips_34, show f_Md_entries [.ref 618, .int 0, .int (nI i)] (hp G1) = _ from H.ent h.os hi, ci_some, if_neg (lm (Nat.le_refl _) (by omega))]) 0 (f := mm_fu) (fu_lt (by omega))
    rw [foldl_count, Nat.zero_add] at key
    exact key
theorem r_missing (W : MW Z G P T A U cu) (x : Int32) : ∃ G', f_Md_missing [.ref 618, .int x] (hp G) = some (some (.int (misW P A x)), hp G') ∧ MW Z G' P T A U cu := by
  have hn := W.inv.ni
  have W1 := W.th 0
  rw [e_Md_missing 618 _ _ (ob_Md G), ww_Md_thrown, Option.bind_some]
  generalize gsi G 618 0 0 = G1 at W1 ⊢
  refine ⟨G1, ?_, W1⟩
  have H := W1.ms
  have h := W1.inv
  rw [m_isIndex W1, ci_some]
  unfold misW
  cases hx : isIx P x
  · rw [if_pos (by decide)]; rfl
  · obtain ⟨i, hi, rfl⟩ := (isIx_iff hn x).mp hx
    have hlen := (h.kl hi).2.1
    have hr30 := h.kr.1
    rw [if_neg (by decide), if_pos (show true = true from rfl), nI_tn (by omega), show f_Md_visible [.ref 618, .int 0] (hp G1) = _ from m_visible H, ci_some, m_belongSet H h hi, ci_some, vis_bel h]
    have key := for_inv (aL A i).flatten (fun f k (a : Int32) => mm_run p_Md_missing f 29 [.ref 618, .int (nI i), .int a, .int (nI k)] [] (hp G1)) (fun a c => if bt a (c % 32) && decide (codA P A i (c % 32) = c) then a &&& (sbit (c % 32) ^^^ (-1)) else a &&& (-1)) (fun _ a => ∀ r, bt a r = true → r < aM A) (fun a => some (some (Value.int a), hp G1)) (fun f k a hk ha => by
      have hcl := (h.kl hi).2.2.2.1 _ (List.getElem_mem hk)
      refine ⟨?_, fun r hr => ha r ?_⟩
      · show mm_run p_Md_missing (f + 1) 29 _ [] (hp G1) = _
        rw [e_Md_missing_29, show f_Md_entries [.ref 618, .int 0, .int (nI i)] (hp G1) = _ from H.ent h.os hi, ci_some, if_pos (lp hk (by omega)), show f_Md_rowAt [.ref 618, .int 0, .int (nI i), .int (nI k)] (hp G1) = _ from H.rat h.os hi hk, ci_some, s_Md_has _ (Nat.mod_lt _ (by decide)), ci_some, show nI k + 1 = nI (k + 1) from nI_add k 1, show (1 : Int32) <<< (nI ((aL A i).flatten[k] % 32) &&& 31) = sbit ((aL A i).flatten[k] % 32) from rfl]
        cases hD : bt a ((aL A i).flatten[k] % 32)
        · rw [if_pos (show b2 false = 0 from rfl), Bool.false_and, if_neg (by decide)]
        · have hm : (aL A i).flatten[k] % 32 < aM A := ha _ hD
          have hc2 := codA_lt h hi hm
          rw [if_neg (show ¬ b2 true = 0 by decide), m_entryNow H h hi hm, ci_some, show f_Md_entryAt [.ref 618, .int 0, .int (nI i), .int (nI k)] (hp G1) = _ from H.eat h.os hi hk, ci_some, Bool.true_and]
          by_cases e : codA P A i ((aL A i).flatten[k] % 32) = (aL A i).flatten[k]
          · rw [if_pos (by rw [e]), if_pos (decide_eq_true e)]
          · rw [if_neg (ln e (by omega) (by omega)), if_neg (by rw [decide_eq_false e]; decide)]
      · have h32 := bt_lt hr
        split at hr
        · rw [b_and, Bool.and_eq_true] at hr; exact hr.1
        · rw [b_and, Bool.and_eq_true] at hr; exact hr.1) (fun f a _ => by
      show mm_run p_Md_missing (f + 1) 29 _ [] (hp G1) = _
      rw [e_Md_missing_29, show f_Md_entries [.ref 618, .int 0, .int (nI i)] (hp G1) = _ from H.ent h.os hi, ci_some, if_neg (lm (Nat.le_refl _) (by omega))]) (a := readA P A i) (fun r hr => by
      rw [bt_read h (bt_lt hr)] at hr
      simp only [Bool.and_eq_true, decide_eq_true_eq] at hr
      exact hr.1) (f := mm_fu) (fu_lt (by omega))
    rw [show mm_run p_Md_missing mm_fu 29 [.ref 618, .int (nI i), .int (readA P A i), .int 0] [] (hp G1) = _ from key.1]
    have e : (aL A i).flatten.foldl (fun a c => if bt a (c % 32) && decide (codA P A i (c % 32) = c) then a &&& (sbit (c % 32) ^^^ (-1)) else a &&& (-1)) (readA P A i) = missA P A i := by
      apply b_ext
      intro r hr
      rw [bt_foldClr (fun c => decide (codA P A i (c % 32) = c)) hr]
      unfold missA
      rw [bt_msk _ _ (by omega) r hr]
      cases hR : bt (readA P A i) r
      · simp
      · have hm : r < aM A := by
          rw [bt_read h hr] at hR
          simp only [Bool.and_eq_true, decide_eq_true_eq] at hR
          exact hR.1
        rw [decide_eq_true hm, Bool.true_and, Bool.true_and, Bool.true_and]
        congr 1
        rw [Bool.eq_iff_iff, List.any_eq_true, decide_eq_true_eq]
        simp only [Bool.and_eq_true, decide_eq_true_eq]
        have hmod : codA P A i r % 32 = r := by
          unfold codA codD
          omega
        constructor
        · rintro ⟨c, hc, e1, e2⟩
          rw [e2, e1]; exact hc
        · intro hc
          exact ⟨_, hc, by rw [hmod], hmod.symm⟩
    rw [e]
end MWI
