/-! THE REFERENCE: the n-th left by a way -/
theorem srt_at : ∀ {l : List Nat} {n x : Nat}, l.Pairwise (· < ·) → (l[n]? = some x ↔ x ∈ l ∧ (l.filter (fun y => decide (y < x))).length = n)
  | [], n, x, _ => by simp
  | y :: l, n, x, h => by
    have h' := List.pairwise_cons.mp h
    have hcnt : ∀ z, z ∈ l → ((y :: l).filter (fun u => decide (u < z))).length = (l.filter (fun u => decide (u < z))).length + 1 := fun z hz => by
      rw [List.filter_cons, if_pos (by simpa using h'.1 z hz), List.length_cons]
    have hcy : ((y :: l).filter (fun u => decide (u < y))).length = 0 := by
      rw [List.filter_cons, if_neg (by simp), List.length_eq_zero_iff, List.filter_eq_nil_iff]
      intro u hu
      have := h'.1 u hu
      simp; omega
    cases n with
    | zero =>
      rw [List.getElem?_cons_zero]
      constructor
      · intro e
        have := Option.some.inj e
        subst this
        exact ⟨List.mem_cons_self, hcy⟩
      · rintro ⟨h1, h2⟩
        rcases List.mem_cons.mp h1 with e | e
        · rw [e]
        · rw [hcnt x e] at h2; omega
    | succ n =>
      rw [List.getElem?_cons_succ, srt_at h'.2]
      constructor
      · rintro ⟨h1, h2⟩
        exact ⟨List.mem_cons_of_mem _ h1, by rw [hcnt x h1, h2]⟩
      · rintro ⟨h1, h2⟩
        rcases List.mem_cons.mp h1 with e | e
        · subst e; rw [hcy] at h2; omega
        · rw [hcnt x e] at h2; exact ⟨e, by omega⟩
def keyW (w c : Nat) : Nat := if w = 0 then c else c % 32
def aheadW (w : Nat) (d : Int32) (L : LL) (c : Nat) : Nat := (L.flatten.filter (fun x => decide (keyW w x < keyW w c) && bt d (x % 32))).length
def isNth (w : Nat) (d : Int32) (L : LL) (n c : Nat) : Bool := bt d (c % 32) && decide (aheadW w d L c = n)
theorem nth_iff {page w : Nat} {d : Int32} {L : LL} (hk : okL page L) {n c : Nat} (hc : c ∈ L.flatten) : isNth w d L n c = true ↔ (leftsW w d L)[n]? = some (c % 32) := by
  have hinj : ∀ x ∈ L.flatten, x % 32 = c % 32 → x = c := fun x hx e => by
    obtain ⟨i, hi, ei⟩ := List.mem_iff_getElem.mp hx
    obtain ⟨j, hj, ej⟩ := List.mem_iff_getElem.mp hc
    have hnd := hk.2.2.2.2.2
    have h1 : (L.flatten.map (· % 32))[i]'(by rw [List.length_map]; exact hi) = (L.flatten.map (· % 32))[j]'(by rw [List.length_map]; exact hj) := by
      rw [List.getElem_map, List.getElem_map, ei, ej]; exact e
    have := (List.getElem_inj hnd).mp h1
    subst this
    rw [← ei, ej]
  unfold isNth
  rw [Bool.and_eq_true, decide_eq_true_eq]
  unfold leftsW
  by_cases hw : w = 0
  · rw [if_pos hw]
    unfold leftsP
    have hs : (L.flatten.filter (fun c => bt d (c % 32))).Pairwise (· < ·) := hk.2.2.2.2.1.filter _
    have ha : aheadW w d L c = ((L.flatten.filter (fun c => bt d (c % 32))).filter (fun y => decide (y < c))).length := by
      unfold aheadW keyW
      simp only [hw, if_true]
      rw [List.filter_filter]
    rw [ha, List.getElem?_map]
    constructor
    · rintro ⟨h1, h2⟩
      rw [(srt_at hs).mpr ⟨List.mem_filter.mpr ⟨hc, h1⟩, h2⟩]
      rfl
    · intro h
      cases hg : (L.flatten.filter (fun c => bt d (c % 32)))[n]? with
      | none => rw [hg] at h; exact absurd h (by simp)
      | some x =>
        rw [hg] at h
        have hx : x % 32 = c % 32 := Option.some.inj h
        have hm := (srt_at hs).mp hg
        have := hinj x (List.mem_filter.mp hm.1).1 hx
        subst this
        exact ⟨(List.mem_filter.mp hm.1).2, hm.2⟩
  · rw [if_neg hw]
    have hs : (leftsR d L).Pairwise (· < ·) := by
      unfold leftsR
      exact List.pairwise_lt_range.filter _
    have hmem : ∀ r, r ∈ leftsR d L ↔ ∃ x ∈ L.flatten, x % 32 = r ∧ bt d r = true := fun r => by
      unfold leftsR
      rw [List.mem_filter, List.mem_range]
      constructor
      · rintro ⟨h1, h2⟩
        rw [b_and, bt_rb _ (by omega)] at h2
        simp only [Bool.and_eq_true, decide_eq_true_eq] at h2
        obtain ⟨x, hx, e⟩ := List.mem_map.mp h2.1
        exact ⟨x, hx, e, h2.2⟩
      · rintro ⟨x, hx, e, h2⟩
        have h30 := (hk.2.2.2.1 x hx).2
        refine ⟨by omega, ?_⟩
        rw [b_and, bt_rb _ (by omega), h2]
        simp only [Bool.and_true, decide_eq_true_eq]
        exact List.mem_map.mpr ⟨x, hx, e⟩
    have hlen : aheadW w d L c = ((leftsR d L).filter (fun y => decide (y < c % 32))).length := by
      unfold aheadW keyW
      simp only [hw, if_false]
      rw [← List.length_map (f := fun x => x % 32)]
      refine List.Perm.length_eq ((List.perm_ext_iff_of_nodup ?_ ?_).mpr (fun r => ?_))
      · have hsub : ((L.flatten.filter (fun x => decide (x % 32 < c % 32) && bt d (x % 32))).map (fun x => x % 32)).Sublist (L.flatten.map (· % 32)) := List.filter_sublist.map _
        exact hsub.nodup hk.2.2.2.2.2
      · exact (hs.filter _).imp (fun h => by omega)
      · rw [List.mem_map, List.mem_filter, hmem]
        constructor
        · rintro ⟨x, hx, e⟩
          have := List.mem_filter.mp hx
          simp only [Bool.and_eq_true, decide_eq_true_eq] at this
          exact ⟨⟨x, this.1, e, by rw [← e]; exact this.2.2⟩, by rw [← e]; simpa using this.2.1⟩
        · rintro ⟨⟨x, hx, e, h2⟩, h3⟩
          refine ⟨x, List.mem_filter.mpr ⟨hx, ?_⟩, e⟩
          simp only [Bool.and_eq_true, decide_eq_true_eq] at h3 ⊢
          exact ⟨by rw [e]; exact h3, by rw [e]; exact h2⟩
    rw [hlen, srt_at hs, hmem]
    constructor
    · rintro ⟨h1, h2⟩
      exact ⟨⟨c, hc, rfl, h1⟩, h2⟩
    · rintro ⟨⟨x, hx, e, h1⟩, h2⟩
      exact ⟨h1, h2⟩
/-- the place as the reference finds it -/
def nthK (w : Nat) (d : Int32) (L : LL) (n : Nat) (k : Nat) : Int32 := ((L.flatten.take k).foldl (fun (a : Int32 × Nat) c => (if isNth w d L n c then nI a.2 else a.1, a.2 + 1)) (-1, 0)).1
theorem nthK_snd (w : Nat) (d : Int32) (L : LL) (n : Nat) : ∀ (l : List Nat) (a : Int32 × Nat), (l.foldl (fun (a : Int32 × Nat) c => (if isNth w d L n c then nI a.2 else a.1, a.2 + 1)) a).2 = a.2 + l.length
  | [], a => rfl
  | c :: l, a => by rw [List.foldl_cons, nthK_snd w d L n l, List.length_cons]; show a.2 + 1 + l.length = _; omega
theorem nthK_s {w : Nat} {d : Int32} {L : LL} {n k : Nat} (h : k < L.flatten.length) : nthK w d L n (k + 1) = if isNth w d L n L.flatten[k] then nI k else nthK w d L n k := by
  unfold nthK
  rw [List.take_succ_eq_append_getElem h, List.foldl_append, List.foldl_cons, List.foldl_nil]
  have := nthK_snd w d L n (L.flatten.take k) (-1, 0)
  rw [List.length_take, Nat.min_eq_left (by omega)] at this
  show (if isNth w d L n L.flatten[k] then nI _ else _) = _
  rw [this, Nat.zero_add]
theorem nth_none {page w : Nat} {d : Int32} {L : LL} (hk : okL page L) {n : Nat} (h : (leftsW w d L)[n]? = none) : nthK w d L n L.flatten.length = -1 := by
  have key : ∀ k, k ≤ L.flatten.length → nthK w d L n k = -1 := by
    intro k
    induction k with
    | zero => intro _; rfl
    | succ k ih =>
      intro hk2
      rw [nthK_s (by omega)]
      cases hi : isNth w d L n (L.flatten[k]'(by omega))
      · exact ih (by omega)
      · have := (nth_iff hk (List.getElem_mem _)).mp hi
        rw [h] at this
        exact absurd this (by simp)
  exact key _ (Nat.le_refl _)
theorem nth_some {page w : Nat} {d : Int32} {L : LL} (hk : okL page L) {n r : Nat} (h : (leftsW w d L)[n]? = some r) (hex : ∃ c ∈ L.flatten, c % 32 = r) : ∃ k, ∃ hk2 : k < L.flatten.length, L.flatten[k] % 32 = r ∧ nthK w d L n L.flatten.length = nI k := by
  obtain ⟨c, hc, e⟩ := hex
  obtain ⟨k0, hk0, ek⟩ := List.mem_iff_getElem.mp hc
  have hi0 : isNth w d L n L.flatten[k0] = true := (nth_iff hk (List.getElem_mem _)).mpr (by rw [ek, e]; exact h)
  refine ⟨k0, hk0, by rw [ek]; exact e, ?_⟩
  have key : ∀ j, k0 + 1 + j ≤ L.flatten.length → nthK w d L n (k0 + 1 + j) = nI k0 := by
    intro j
    induction j with
    | zero => intro _; rw [Nat.add_zero, nthK_s hk0, hi0, if_pos rfl]
    | succ j ih =>
      intro hj
      rw [← Nat.add_assoc, nthK_s (by omega)]
      cases hi : isNth w d L n (L.flatten[k0 + 1 + j]'(by omega))
      · exact ih (by omega)
      · exfalso
        have h1 := (nth_iff hk (List.getElem_mem _)).mp hi
        have h2 := (nth_iff hk (List.getElem_mem _)).mp hi0
        rw [h1] at h2
        have h3 := Option.some.inj h2
        have hnd := hk.2.2.2.2.2
        have h4 : (L.flatten.map (· % 32))[k0 + 1 + j]'(by rw [List.length_map]; omega) = (L.flatten.map (· % 32))[k0]'(by rw [List.length_map]; exact hk0) := by
          rw [List.getElem_map, List.getElem_map]; exact h3
        have := (List.getElem_inj hnd).mp h4
        omega
  have := key (L.flatten.length - (k0 + 1)) (by omega)
  rw [show k0 + 1 + (L.flatten.length - (k0 + 1)) = L.flatten.length by omega] at this
  exact this
theorem lefts_mem {page w : Nat} {d : Int32} {L : LL} (hk : okL page L) {r : Nat} (h : r ∈ leftsW w d L) : ∃ c ∈ L.flatten, c % 32 = r ∧ bt d r = true := by
  unfold leftsW at h
  split at h
  · unfold leftsP at h
    obtain ⟨c, hc, e⟩ := List.mem_map.mp h
    have := List.mem_filter.mp hc
    exact ⟨c, this.1, e, by rw [← e]; exact this.2⟩
  · unfold leftsR at h
    have := List.mem_filter.mp h
    have h30 := List.mem_range.mp this.1
    have hb := this.2
    rw [b_and, bt_rb _ (by omega)] at hb
    simp only [Bool.and_eq_true, decide_eq_true_eq] at hb
    obtain ⟨c, hc, e⟩ := List.mem_map.mp hb.1
    exact ⟨c, hc, e, hb.2⟩
section MDF
variable {G : GG} {b i page : Nat} {L : LL}
def cntW (w : Nat) (d : Int32) (c : Nat) (x : Nat) : Bool := decide (keyW w (x / 2) < keyW w c) && bt d (x / 2 % 32)
theorem cnt_all (w : Nat) (d : Int32) (c : Nat) : ((fl L).filter (cntW w d c)).length = aheadW w d L c := by
  unfold aheadW
  rw [← fl_code, List.filter_map, List.length_map]
  rfl
theorem left_in (hb : b ≤ 9252) (hi : i < 4) (h : isM G (b + 359 + 31 * i) (fl L)) (hk : okL page L) (d : Int32) {w n k : Nat} (hw : w ≤ 1) (v6 : Int32) (hkl : k < (fl L).length) : ∀ (q j f a : Nat), j + q = (fl L).length → 2 * q < f → mm_run p_Md_leftAt f 30 [.ref 618, .int (nI b), .int (nI i), .int (nI w), .int (nI n), .int d, .int v6, .int (nI k), .int (nI a), .int (nI j)] [] (hp G) = mm_run p_Md_leftAt (f - 2 * q) 30 [.ref 618, .int (nI b), .int (nI i), .int (nI w), .int (nI n), .int d, .int v6, .int (nI k), .int (nI (a + (((fl L).drop j).filter (cntW w d ((fl L)[k] / 2))).length)), .int (nI (fl L).length)] [] (hp G) := by
  have hkM := okM_fl hk
  have h30 := hkM.1
  intro q
  induction q with
  | zero => intro j f a hj _; rw [show j = (fl L).length by omega, List.drop_of_length_le (Nat.le_refl _)]; rfl
  | succ q ih =>
    intro j f a hj hf
    obtain ⟨f, rfl⟩ : ∃ g, f = g + 2 := ⟨f - 2, by omega⟩
    have hjl : j < (fl L).length := by omega
    have hr := fl_row hk hjl
    have hr2 := fl_row hk hkl
    have hstep : ∀ (s0 : Bool), (s0 = decide (keyW w ((fl L)[j] / 2) < keyW w ((fl L)[k] / 2))) → mm_run p_Md_leftAt (f + 1) 84 [.ref 618, .int (nI b), .int (nI i), .int (nI w), .int (nI n), .int d, .int v6, .int (nI k), .int (nI a), .int (nI j)] [.int (b2 s0)] (hp G) = mm_run p_Md_leftAt (f + 2 - 2 * (q + 1)) 30 [.ref 618, .int (nI b), .int (nI i), .int (nI w), .int (nI n), .int d, .int v6, .int (nI k), .int (nI (a + (((fl L).drop j).filter (cntW w d ((fl L)[k] / 2))).length)), .int (nI (fl L).length)] [] (hp G) := fun s0 hs0 => by
      rw [e_Md_leftAt_84, show nI j + 1 = nI (j + 1) from nI_add j 1, show f + 2 - 2 * (q + 1) = f - 2 * q by omega, drop_cons hjl, List.filter_cons]
      have hc : cntW w d ((fl L)[k] / 2) (fl L)[j] = (s0 && bt d ((fl L)[j] / 2 % 32)) := by rw [hs0]; rfl
      rw [hc]
      cases s0
      · rw [if_pos (by decide), Bool.false_and, if_neg (by decide), show nI a + 0 = nI (a + 0) from nI_add a 0, Nat.add_zero]
        exact ih (j + 1) f a (by omega) (by omega)
      · rw [if_neg (by decide), s_Md_rowAt hb hi h hkM hjl, ci_some, s_Md_has d (by omega), ci_some, Bool.true_and]
        cases bt d ((fl L)[j] / 2 % 32)
        · rw [if_pos (by decide), if_neg (by decide), show nI a + 0 = nI (a + 0) from nI_add a 0, Nat.add_zero]
          exact ih (j + 1) f a (by omega) (by omega)
        · rw [if_neg (by decide), if_pos rfl, show nI a + 1 = nI (a + 1) from nI_add a 1, ih (j + 1) f (a + 1) (by omega) (by omega), List.length_cons, show a + 1 + (((fl L).drop (j + 1)).filter (cntW w d ((fl L)[k] / 2))).length = a + ((((fl L).drop (j + 1)).filter (cntW w d ((fl L)[k] / 2))).length + 1) by omega]
    rw [e_Md_leftAt_30, s_Md_entries hb hi h, ci_some, if_pos (lp hjl (by omega))]
    by_cases hw0 : w = 0
    · rw [if_pos (show nI w = (0 : Int32) from lq (n := 0) hw0)]
      have hord : ((fl L)[j] / 2 < (fl L)[k] / 2) ↔ j < k := by
        rw [fl_at hjl, fl_at hkl]
        have hp := hk.2.2.2.2.1
        constructor
        · intro h1
          apply Classical.byContradiction
          intro h2
          rcases Nat.lt_or_ge k j with h3 | h3
          · have := (List.pairwise_iff_getElem.mp hp) k j (by rw [← fl_len]; exact hkl) (by rw [← fl_len]; exact hjl) h3
            omega
          · have : j = k := by omega
            subst this
            omega
        · intro h1
          exact (List.pairwise_iff_getElem.mp hp) j k (by rw [← fl_len]; exact hjl) (by rw [← fl_len]; exact hkl) h1
      by_cases g : j < k
      · rw [if_pos (lp g (by omega))]
        exact hstep true (by rw [decide_eq_true]; unfold keyW; rw [if_pos hw0, if_pos hw0]; exact hord.mpr g)
      · rw [if_neg (lm (by omega) (by omega))]
        exact hstep false (by rw [decide_eq_false]; unfold keyW; rw [if_pos hw0, if_pos hw0]; exact fun q => g (hord.mp q))
    · rw [if_neg (show ¬ nI w = (0 : Int32) from ln (n := 0) hw0 (by omega) (by decide)), s_Md_rowAt hb hi h hkM hjl, ci_some, s_Md_rowAt hb hi h hkM hkl, ci_some]
      by_cases g : (fl L)[j] / 2 % 32 < (fl L)[k] / 2 % 32
      · rw [if_pos (lp g (by omega))]
        exact hstep true (by rw [decide_eq_true]; unfold keyW; rw [if_neg hw0, if_neg hw0]; exact g)
      · rw [if_neg (lm (by omega) (by omega))]
        exact hstep false (by rw [decide_eq_false]; unfold keyW; rw [if_neg hw0, if_neg hw0]; exact g)
theorem s_left13 (hb : b ≤ 9252) (hi : i < 4) (h : isM G (b + 359 + 31 * i) (fl L)) (hk : okL page L) (d : Int32) {w n : Nat} (hw : w ≤ 1) (hn : n < 2147483648) : mm_run p_Md_leftAt mm_fu 13 [.ref 618, .int (nI b), .int (nI i), .int (nI w), .int (nI n), .int d, .int (-1), .int 0] [] (hp G) = some (some (.int (nthK w d L n L.flatten.length)), hp G) := by
  have hkM := okM_fl hk
  have h30 := hkM.1
  have hlen := fl_len L
  have key : ∀ (q k f : Nat), k + q = (fl L).length → 100 * q < f → mm_run p_Md_leftAt f 13 [.ref 618, .int (nI b), .int (nI i), .int (nI w), .int (nI n), .int d, .int (nthK w d L n k), .int (nI k)] [] (hp G) = some (some (.int (nthK w d L n L.flatten.length)), hp G) := by
    intro q
    induction q with
    | zero =>
      intro k f hk2 hf
      obtain ⟨f, rfl⟩ : ∃ g, f = g + 1 := ⟨f - 1, by omega⟩
      rw [e_Md_leftAt_13, s_Md_entries hb hi h, ci_some, if_neg (lm (by omega) (by omega)), show k = L.flatten.length by omega]
    | succ q ih =>
      intro k f hk2 hf
      obtain ⟨f, rfl⟩ : ∃ g, f = g + 1 := ⟨f - 1, by omega⟩
      have hkl : k < (fl L).length := by omega
      have hr := fl_row hk hkl
      have hin := left_in hb hi h hk d hw (n := n) (nthK w d L n k) hkl (fl L).length 0 f 0 (by omega) (by omega)
      rw [Nat.zero_add, List.drop_zero, cnt_all] at hin
      rw [e_Md_leftAt_13, s_Md_entries hb hi h, ci_some, if_pos (lp hkl (by omega)), show mm_run p_Md_leftAt f 30 [.ref 618, .int (nI b), .int (nI i), .int (nI w), .int (nI n), .int d, .int (nthK w d L n k), .int (nI k), .int 0, .int 0] [] (hp G) = _ from hin]
      obtain ⟨f2, hf2⟩ : ∃ g, f - 2 * (fl L).length = g + 1 := ⟨f - 2 * (fl L).length - 1, by omega⟩
      have hal : aheadW w d L ((fl L)[k] / 2) ≤ 30 := by
        unfold aheadW
        exact Nat.le_trans (List.length_filter_le _ _) hk.2.1
      rw [hf2, e_Md_leftAt_30, s_Md_entries hb hi h, ci_some, if_neg (lm (Nat.le_refl _) (by omega)), s_Md_rowAt hb hi h hkM hkl, ci_some, s_Md_has d (by omega), ci_some, show nI k + 1 = nI (k + 1) from nI_add k 1]
      have hs := nthK_s (w := w) (d := d) (n := n) (show k < L.flatten.length by omega)
      have hn2 : isNth w d L n (L.flatten[k]'(by omega)) = (bt d ((fl L)[k] / 2 % 32) && decide (aheadW w d L ((fl L)[k] / 2) = n)) := by
        unfold isNth
        rw [fl_at hkl]
      rw [hn2] at hs
      have ih' := ih (k + 1) f2 (by omega) (by omega)
      cases hbt : bt d ((fl L)[k] / 2 % 32)
      · rw [hbt, Bool.false_and, if_neg (by decide)] at hs
        rw [if_pos (by decide), ← hs]
        exact ih'
      · rw [hbt, Bool.true_and] at hs
        rw [if_neg (by decide)]
        by_cases g : aheadW w d L ((fl L)[k] / 2) = n
        · rw [decide_eq_true g, if_pos rfl] at hs
          rw [if_pos (lq g), ← hs]
          exact ih'
        · rw [decide_eq_false g, if_neg (by decide)] at hs
          rw [if_neg (ln g (by omega) hn), ← hs]
          exact ih'
  exact key (fl L).length 0 mm_fu (by omega) (fu_lt (by omega))
end MDF
