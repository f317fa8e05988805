/-! Leaves: what the ways cost -/
/-- how many entries stand in the first j leaves -/
def pre (L : LL) (j : Nat) : Nat := (L.take j).flatten.length
theorem pre_0 (L : LL) : pre L 0 = 0 := rfl
theorem pre_succ {L : LL} {j : Nat} (h : j < L.length) : pre L (j + 1) = pre L j + L[j].length := by
  unfold pre
  rw [List.take_succ_eq_append_getElem h, List.flatten_append, List.length_append]
  simp
theorem pre_all (L : LL) : pre L L.length = L.flatten.length := by unfold pre; rw [List.take_length]
theorem pre_mono {L : LL} : ∀ {i j : Nat}, i ≤ j → pre L i ≤ pre L j := by
  intro i j h
  induction j with
  | zero => have : i = 0 := by omega
            subst this; exact Nat.le_refl _
  | succ j ih =>
    by_cases e : i = j + 1
    · rw [e]; exact Nat.le_refl _
    · have h1 := ih (by omega)
      by_cases hj : j < L.length
      · rw [pre_succ hj]; omega
      · have : pre L (j + 1) = pre L j := by
          unfold pre
          rw [List.take_of_length_le (by omega), List.take_of_length_le (by omega)]
        rw [this]; exact h1
theorem pre_le (L : LL) (j : Nat) : pre L j ≤ L.flatten.length := by
  by_cases h : j ≤ L.length
  · rw [← pre_all]; exact pre_mono h
  · unfold pre; rw [List.take_of_length_le (by omega)]; exact Nat.le_refl _
theorem pre_step {L : LL} (hne : ∀ l ∈ L, l ≠ []) {j : Nat} (h : j < L.length) : pre L j < pre L (j + 1) := by
  rw [pre_succ h]
  have := List.length_pos_iff.mpr (hne _ (List.getElem_mem h))
  omega
theorem pre_one {L : LL} {i j k : Nat} (h1 : pre L j ≤ i) (h2 : i < pre L (j + 1)) (h3 : pre L k ≤ i) (h4 : i < pre L (k + 1)) : j = k := by
  rcases Nat.lt_trichotomy j k with h | h | h
  · have := pre_mono (L := L) (show j + 1 ≤ k by omega); omega
  · exact h
  · have := pre_mono (L := L) (show k + 1 ≤ j by omega); omega
theorem zl_len : ∀ (L : LL) (k : Nat), (zl k L).length = L.flatten.length
  | [], _ => rfl
  | l :: L, k => by simp only [zl, List.length_append, List.length_map, zl_len L (k + 1), List.flatten_cons]
theorem zl_at : ∀ (L : LL) (k i : Nat) (hi : i < L.flatten.length), ∃ j, j < L.length ∧ pre L j ≤ i ∧ i < pre L (j + 1) ∧ (zl k L)[i]? = some (k + j, L.flatten[i])
  | [], k, i, hi => by simp at hi
  | l :: L, k, i, hi => by
    have e1 : ∀ j, pre (l :: L) (j + 1) = l.length + pre L j := by
      intro j
      unfold pre
      rw [List.take_succ_cons, List.flatten_cons, List.length_append]
    by_cases h : i < l.length
    · refine ⟨0, by simp, Nat.zero_le _, by rw [e1]; simp [pre_0, h], ?_⟩
      simp only [zl, List.flatten_cons]
      rw [List.getElem?_append_left (by simpa using h), List.getElem_append_left h]
      simp [h]
    · simp only [List.flatten_cons, List.length_append] at hi
      obtain ⟨j, h1, h2, h3, h4⟩ := zl_at L (k + 1) (i - l.length) (by omega)
      refine ⟨j + 1, by simpa using h1, by rw [e1]; omega, by rw [e1]; omega, ?_⟩
      simp only [zl, List.flatten_cons]
      rw [List.getElem?_append_right (by simp; omega), List.length_map, h4, List.getElem_append_right (by omega)]
      congr 2
      omega
/-- first, last, how many: as the class has them -/
def pcI (a : Option (Nat × Nat × Nat)) : Int32 × Int32 × Int32 := match a with
  | none => (-1, -1, 0)
  | some (f, l, n) => (nI f, nI l, nI n)
theorem pcS_ok {d : Int32} {a : Option (Nat × Nat × Nat)} {k c i : Nat} (h : ∀ f l n, a = some (f, l, n) → f ≤ l ∧ l ≤ k ∧ 1 ≤ n ∧ n ≤ i) : ∀ f l n, pcS d a (k, c) = some (f, l, n) → f ≤ l ∧ l ≤ k ∧ 1 ≤ n ∧ n ≤ i + 1 := by
  intro f l n e
  unfold pcS at e
  split at e
  · split at e
    · cases e; exact ⟨Nat.le_refl _, Nat.le_refl _, Nat.le_refl _, by omega⟩
    · rename_i f0 l0 n0
      obtain ⟨h1, h2, h3, h4⟩ := h f0 l0 n0 rfl
      split at e
      · cases e; exact ⟨h1, h2, h3, by omega⟩
      · cases e
        have : k = k := rfl
        exact ⟨by omega, Nat.le_refl _, by omega, by omega⟩
  · obtain ⟨h1, h2, h3, h4⟩ := h f l n e
    exact ⟨h1, h2, h3, by omega⟩
section COST
variable {G : GG} {t page : Nat} {down : Bool} {L : LL}
theorem pc_ok (d : Int32) (hne : ∀ l ∈ L, l ≠ []) : ∀ f l n, (zl 0 L).foldl (pcS d) none = some (f, l, n) → f ≤ l ∧ l < L.length ∧ 1 ≤ n ∧ n ≤ L.flatten.length := by
  have key : ∀ (m i : Nat) (a : Option (Nat × Nat × Nat)), i + m = L.flatten.length → (∀ f l n, a = some (f, l, n) → f ≤ l ∧ l < L.length ∧ (∃ q, q < i ∧ pre L l ≤ q) ∧ 1 ≤ n ∧ n ≤ i) → ∀ f l n, ((zl 0 L).drop i).foldl (pcS d) a = some (f, l, n) → f ≤ l ∧ l < L.length ∧ 1 ≤ n ∧ n ≤ L.flatten.length := by
    intro m
    induction m with
    | zero =>
      intro i a e hI f l n h
      rw [List.drop_of_length_le (by rw [zl_len]; omega)] at h
      obtain ⟨h1, h2, -, h3, h4⟩ := hI f l n h
      exact ⟨h1, h2, h3, by omega⟩
    | succ m ih =>
      intro i a e hI f l n h
      have hil : i < L.flatten.length := by omega
      have hz : i < (zl 0 L).length := by rw [zl_len]; exact hil
      obtain ⟨j, z1, z2, z3, z4⟩ := zl_at L 0 i hil
      rw [drop_cons hz, List.foldl_cons] at h
      have ez : (zl 0 L)[i] = (j, L.flatten[i]) := by
        rw [List.getElem?_eq_getElem hz] at z4
        rw [Option.some.inj z4, Nat.zero_add]
      rw [ez] at h
      refine ih (i + 1) _ (by omega) (fun f l n e2 => ?_) f l n h
      unfold pcS at e2
      split at e2
      · split at e2
        · cases e2; exact ⟨Nat.le_refl _, z1, ⟨i, by omega, z2⟩, Nat.le_refl _, by omega⟩
        · rename_i f0 l0 n0
          obtain ⟨h1, h2, ⟨q, h5, h6⟩, h3, h4⟩ := hI f0 l0 n0 rfl
          split at e2
          · cases e2; exact ⟨h1, h2, ⟨q, by omega, h6⟩, h3, by omega⟩
          · cases e2
            have hlj : l0 ≤ j := by
              rcases Nat.lt_or_ge j l0 with hh | hh
              · have := pre_mono (L := L) (show j + 1 ≤ l0 by omega); omega
              · exact hh
            exact ⟨by omega, z1, ⟨i, by omega, z2⟩, by omega, by omega⟩
      · obtain ⟨h1, h2, ⟨q, h5, h6⟩, h3, h4⟩ := hI f l n e2
        exact ⟨h1, h2, ⟨q, by omega, h6⟩, h3, by omega⟩
  intro f l n h
  exact key L.flatten.length 0 none (Nat.zero_add _) (fun _ _ _ e => by cases e) f l n h
theorem passC_le (d : Int32) (hk : okL page L) : passC d page L ≤ 100 := by
  unfold passC
  have h1 := hg_le hk.1.1 L.length
  have h2 := hk.len
  have h3 := hk.2.1
  split
  · omega
  · rename_i f l n e
    obtain ⟨p1, p2, p3, p4⟩ := pc_ok d (fun l hl => (hk.2.2.1 l hl).1) f l n e
    omega
theorem leftN_le (d : Int32) (L : LL) : leftN d L ≤ L.flatten.length := List.length_filter_le _ _
theorem probeC_le (d : Int32) (hk : okL page L) : probeC d page L ≤ 1000 := by
  unfold probeC
  have h1 := hg_le hk.1.1 L.length
  have h2 := hk.len
  have h3 := Nat.le_trans (leftN_le d L) hk.2.1
  calc (hg page L.length + 2) * leftN d L ≤ 32 * 30 := Nat.mul_le_mul (by omega) h3
    _ ≤ 1000 := by decide
set_option maxHeartbeats 1000000 in
theorem s_Lv_passCost (ho : okLv t) (hi : isLv G t page down L) (hk : okL page L) (d : Int32) : f_Lv_passCost [.ref t, .int d] (hp G) = some (some (.int (nI (passC d page L))), hp G) := by
  have hln := hk.len
  have hn := hk.2.1
  have hp8 := hk.1
  have hne : ∀ l ∈ L, l ≠ [] := fun l hl => (hk.2.2.1 l hl).1
  have main : ∀ b0 : Int32, (0 < L.length → b0 = nI (pre L 1)) → mm_run p_Lv_passCost mm_fu 32 [.ref t, .int d, .int (-1), .int (-1), .int 0, .int 0, .int b0, .int 0] [] (hp G) = some (some (.int (nI (passC d page L))), hp G) := by
    intro b0 hb0
    have h := for_inv (zl 0 L) (fun f i (a : Option (Nat × Nat × Nat) × Int32 × Int32) => mm_run p_Lv_passCost (2 * f + 1) 32 [.ref t, .int d, .int (pcI a.1).1, .int (pcI a.1).2.1, .int (pcI a.1).2.2, .int a.2.1, .int a.2.2, .int (nI i)] [] (hp G)) (fun a q => (pcS d a.1 q, nI q.1, nI (pre L (q.1 + 1))))
      (fun i a => (∀ f l n, a.1 = some (f, l, n) → f ≤ l ∧ l < L.length ∧ (∃ q, q < i ∧ pre L l ≤ q) ∧ 1 ≤ n ∧ n ≤ i) ∧ (i < L.flatten.length → ∃ j, j < L.length ∧ a.2.1 = nI j ∧ a.2.2 = nI (pre L (j + 1)) ∧ pre L j ≤ i ∧ (i ≤ pre L (j + 1) ∧ (i = 0 → j = 0))))
      (fun a => if (pcI a.1).2.2 = 0 then some (some (.int 0), hp G) else some (some (.int ((nI (hg page L.length) + (((pcI a.1).2.1 - (pcI a.1).1) + 1)) + (pcI a.1).2.2)), hp G)) (fun f i a hil hI => ?_) (fun f a hI => ?_) (a := (none, 0, b0)) ⟨fun _ _ _ e => (by cases e), fun hlt => ?_⟩ (f := 49999) (by rw [zl_len]; omega)
    · obtain ⟨h1, h2⟩ := h
      have e : mm_fu = 2 * 49999 + 1 := rfl
      rw [e]
      refine Eq.trans h1 ?_
      have efold : ∀ (q : List (Nat × Nat)) (a : Option (Nat × Nat × Nat)) (x y : Int32), (q.foldl (fun (a : Option (Nat × Nat × Nat) × Int32 × Int32) q => (pcS d a.1 q, nI q.1, nI (pre L (q.1 + 1)))) (a, x, y)).1 = q.foldl (pcS d) a := by
        intro q
        induction q with
        | nil => intro a x y; rfl
        | cons z q ih => intro a x y; rw [List.foldl_cons, ih]; rfl
      rw [efold]
      unfold passC
      cases hf : (zl 0 L).foldl (pcS d) none with
      | none => rfl
      | some v =>
        obtain ⟨f, l, n⟩ := v
        obtain ⟨p1, p2, p3, p4⟩ := pc_ok d hne f l n hf
        show (if nI n = 0 then some (some (Value.int 0), hp G) else some (some (Value.int ((nI (hg page L.length) + ((nI l - nI f) + 1)) + nI n)), hp G)) = _
        rw [if_neg (show ¬ nI n = 0 from fun q => absurd (n_inj (a := n) (b := 0) (by omega) (by omega) q) (by omega))]
        simp (disch := omega) only [n_lit, n_sub, nI_add]
    · have hil2 : i < L.flatten.length := by rw [zl_len] at hil; exact hil
      obtain ⟨I1, I2⟩ := hI
      obtain ⟨j, j1, j2, j3, j4, j5, j6⟩ := I2 hil2
      obtain ⟨a1, lf, bh⟩ := a
      dsimp only at I1 j2 j3
      subst j2; subst j3
      obtain ⟨jj, z1, z2, z3, z4⟩ := zl_at L 0 i hil2
      have ez : (zl 0 L)[i] = (jj, L.flatten[i]) := by
        rw [List.getElem?_eq_getElem hil] at z4
        rw [Option.some.inj z4, Nat.zero_add]
      rw [ez]
      have hpl := pre_le L (j + 1)
      have hpl2 := pre_le L (jj + 1)
      have inv2 : ∀ f l n, pcS d a1 (jj, L.flatten[i]) = some (f, l, n) → f ≤ l ∧ l < L.length ∧ (∃ q, q < i + 1 ∧ pre L l ≤ q) ∧ 1 ≤ n ∧ n ≤ i + 1 := by
        intro f l n e2
        unfold pcS at e2
        split at e2
        · split at e2
          · cases e2; exact ⟨Nat.le_refl _, z1, ⟨i, by omega, z2⟩, Nat.le_refl _, by omega⟩
          · rename_i f0 l0 n0
            obtain ⟨h1, h2, ⟨q, h5, h6⟩, h3, h4⟩ := I1 f0 l0 n0 rfl
            split at e2
            · cases e2; exact ⟨h1, h2, ⟨q, by omega, h6⟩, h3, by omega⟩
            · cases e2
              have hlj : l0 ≤ jj := by
                rcases Nat.lt_or_ge jj l0 with hh | hh
                · have := pre_mono (L := L) (show jj + 1 ≤ l0 by omega); omega
                · exact hh
              exact ⟨by omega, z1, ⟨i, by omega, z2⟩, by omega, by omega⟩
        · obtain ⟨h1, h2, ⟨q, h5, h6⟩, h3, h4⟩ := I1 f l n e2
          exact ⟨h1, h2, ⟨q, by omega, h6⟩, h3, by omega⟩
      refine ⟨?_, inv2, fun hlt => ?_⟩
      · -- two cuts
        have step74 : mm_run p_Lv_passCost (2 * f + 2) 74 [.ref t, .int d, .int (pcI a1).1, .int (pcI a1).2.1, .int (pcI a1).2.2, .int (nI jj), .int (nI (pre L (jj + 1))), .int (nI i)] [] (hp G) = mm_run p_Lv_passCost (2 * f + 1) 32 [.ref t, .int d, .int (pcI (pcS d a1 (jj, L.flatten[i]))).1, .int (pcI (pcS d a1 (jj, L.flatten[i]))).2.1, .int (pcI (pcS d a1 (jj, L.flatten[i]))).2.2, .int (nI jj), .int (nI (pre L (jj + 1))), .int (nI (i + 1))] [] (hp G) := by
          have gen : ∀ x y w : Int32, mm_run p_Lv_passCost (2 * f + 2) 74 [.ref t, .int d, .int x, .int y, .int w, .int (nI jj), .int (nI (pre L (jj + 1))), .int (nI i)] [] (hp G) = if bt d (L.flatten[i] % 32) then (if y = nI jj then mm_run p_Lv_passCost (2 * f + 1) 32 [.ref t, .int d, .int x, .int y, .int w, .int (nI jj), .int (nI (pre L (jj + 1))), .int (nI (i + 1))] [] (hp G) else if x = -1 then mm_run p_Lv_passCost (2 * f + 1) 32 [.ref t, .int d, .int (nI jj), .int (nI jj), .int (w + 1), .int (nI jj), .int (nI (pre L (jj + 1))), .int (nI (i + 1))] [] (hp G) else mm_run p_Lv_passCost (2 * f + 1) 32 [.ref t, .int d, .int x, .int (nI jj), .int (w + 1), .int (nI jj), .int (nI (pre L (jj + 1))), .int (nI (i + 1))] [] (hp G)) else mm_run p_Lv_passCost (2 * f + 1) 32 [.ref t, .int d, .int x, .int y, .int w, .int (nI jj), .int (nI (pre L (jj + 1))), .int (nI (i + 1))] [] (hp G) := by
            intro x y w
            rw [show 2 * f + 2 = (2 * f + 1) + 1 by omega, e_Lv_passCost_74]
            simp (disch := omega) only [gg_Lv_entry _ ho, rr_Lv_entry _ ho, hi.2.1 i hil2, Option.bind_some, ci_some, s_Lv_rowIn, nI_1]
            rw [bt_shr1 d (r := L.flatten[i] % 32) (Nat.mod_lt _ (by decide))]
            by_cases hb : bt d (L.flatten[i] % 32) = true
            · rw [if_pos hb, if_neg (by decide), if_pos hb]
            · rw [if_neg hb, if_pos rfl, if_neg hb]
          rw [gen]
          by_cases hb : bt d (L.flatten[i] % 32) = true
          · rw [if_pos hb]
            cases a1 with
            | none =>
              have e1 : pcS d none (jj, L.flatten[i]) = some (jj, jj, 1) := by unfold pcS; rw [if_pos hb]
              rw [e1, if_neg (show ¬ (pcI none).2.1 = nI jj from fun q => n_m1 (a := jj) (by omega) q.symm), if_pos (show (pcI none).1 = -1 from rfl)]
              rfl
            | some v =>
              obtain ⟨f0, l0, n0⟩ := v
              obtain ⟨h1, h2, -, h3, h4⟩ := I1 f0 l0 n0 rfl
              by_cases hl : l0 = jj
              · have e1 : pcS d (some (f0, l0, n0)) (jj, L.flatten[i]) = some (f0, l0, n0) := by
                  unfold pcS
                  rw [if_pos hb]
                  show (if l0 = jj then _ else _) = _
                  rw [if_pos hl]
                rw [e1, if_pos (show (pcI (some (f0, l0, n0))).2.1 = nI jj from congrArg nI hl)]
              · have e1 : pcS d (some (f0, l0, n0)) (jj, L.flatten[i]) = some (f0, jj, n0 + 1) := by
                  unfold pcS
                  rw [if_pos hb]
                  show (if l0 = jj then _ else _) = _
                  rw [if_neg hl]
                rw [e1, if_neg (show ¬ (pcI (some (f0, l0, n0))).2.1 = nI jj from fun q => hl (n_inj (a := l0) (by omega) (by omega) q)), if_neg (show ¬ (pcI (some (f0, l0, n0))).1 = -1 from n_m1 (a := f0) (by omega))]
                show mm_run p_Lv_passCost (2 * f + 1) 32 [.ref t, .int d, .int (nI f0), .int (nI jj), .int (nI n0 + 1), .int (nI jj), .int (nI (pre L (jj + 1))), .int (nI (i + 1))] [] (hp G) = _
                rw [nI_1]
                rfl
          · rw [if_neg hb]
            have e1 : pcS d a1 (jj, L.flatten[i]) = a1 := by unfold pcS; rw [if_neg hb]
            rw [e1]
        show mm_run p_Lv_passCost (2 * (f + 1) + 1) 32 _ [] (hp G) = _
        rw [show 2 * (f + 1) + 1 = (2 * f + 2) + 1 by omega, e_Lv_passCost_32]
        simp (disch := omega) only [gg_Lv_entries _ ho, gg_Lv_leaves _ ho, gg_Lv_size _ ho, hi.1.1, hi.1.2.1, Option.bind_some, n_lt, nI_1]
        rw [if_pos hil2]
        by_cases hb : i < pre L (j + 1)
        · have : j = jj := pre_one j4 hb z2 z3
          subst this
          rw [if_pos hb]
          exact step74
        · have hij : i = pre L (j + 1) := by omega
          have hj1 : j + 1 < L.length := by
            rcases Nat.lt_or_ge (j + 1) L.length with hh | hh
            · exact hh
            · have : j + 1 = L.length := by omega
              rw [this, pre_all] at hij
              omega
          have hps := pre_step hne hj1
          have : j + 1 = jj := pre_one (by omega) (by omega) z2 z3
          subst this
          rw [if_neg hb, if_pos hj1]
          simp (disch := omega) only [rr_Lv_size _ ho, hi.2.2 (j + 1) hj1, Option.bind_some, nI_add]
          rw [← pre_succ hj1]
          exact step74
      · exact ⟨jj, z1, rfl, rfl, by omega, by omega, fun h => by omega⟩
    · obtain ⟨a1, lf, bh⟩ := a
      show mm_run p_Lv_passCost (2 * (f + 1) + 1) 32 _ [] (hp G) = _
      rw [show 2 * (f + 1) + 1 = (2 * f + 2) + 1 by omega, e_Lv_passCost_32]
      simp (disch := omega) only [zl_len, gg_Lv_entries _ ho, hi.1.1, Option.bind_some, n_lt]
      rw [if_neg (by omega)]
      simp only [s_Lv_height ho hi hp8 hln, ci_some]
    · have hL0 : 0 < L.length := by
        cases L with
        | nil => simp at hlt
        | cons l L => simp
      have := pre_step hne hL0
      exact ⟨0, hL0, rfl, hb0 hL0, Nat.zero_le _, by omega, fun _ => rfl⟩
  rw [e_Lv_passCost t _ _ (ob_Lv G ho)]
  simp (disch := omega) only [gg_Lv_leaves _ ho, gg_Lv_size _ ho, hi.1.2.1, Option.bind_some]
  by_cases h0 : 0 < L.length
  · rw [if_pos (by rw [show (0 : Int32) = nI 0 from rfl, n_lt (by omega) (by omega)]; exact h0)]
    rw [show mm_li (hp G) (t + 2) 0 = some (nI L[0].length) from by rw [show (0 : Int32) = nI 0 from rfl, rr_Lv_size _ ho (by omega), hi.2.2 0 h0], Option.bind_some]
    exact main _ (fun _ => by rw [pre_succ h0, pre_0, Nat.zero_add])
  · rw [if_neg (by rw [show (0 : Int32) = nI 0 from rfl, n_lt (by omega) (by omega)]; exact h0)]
    exact main _ (fun h => absurd h h0)
/-- entries of distinct rows: as many as bits -/
theorem bc_rows (l : List Nat) (d : Int32) (hr : ∀ c ∈ l, c % 32 < 30) (hd : (l.map (· % 32)).Nodup) (x : Int32) (hx : ∀ i, i < 32 → bt x i = (decide (i ∈ l.map (· % 32)) && bt d i)) : bc x = (l.filter (fun c => bt d (c % 32))).length := by
  have e1 : (l.filter (fun c => bt d (c % 32))).length = ((l.map (· % 32)).filter (fun r => bt d r)).length := by
    rw [List.filter_map, List.length_map]
    rfl
  rw [e1]
  unfold bc
  apply List.Perm.length_eq
  apply (List.perm_ext_iff_of_nodup (List.nodup_range.filter _) (hd.filter _)).mpr
  intro i
  simp only [List.mem_filter, List.mem_range]
  constructor
  · rintro ⟨h1, h2⟩
    rw [hx i h1] at h2
    simp only [Bool.and_eq_true, decide_eq_true_eq] at h2
    exact h2
  · rintro ⟨h1, h2⟩
    have : i < 32 := by
      obtain ⟨c, -, rfl⟩ := List.mem_map.mp h1
      exact Nat.mod_lt _ (by decide)
    refine ⟨this, ?_⟩
    rw [hx i this]
    simp [h1, h2]
theorem bc_left (d : Int32) (hk : okL page L) : bc (rb L &&& d) = leftN d L := bc_rows L.flatten d (fun c hc => (hk.2.2.2.1 c hc).2) hk.2.2.2.2.2 _ (fun i hi => by rw [b_and, bt_rb L hi])
theorem s_Lv_probeCost (ho : okLv t) (hi : isLv G t page down L) (hk : okL page L) (d : Int32) : f_Lv_probeCost [.ref t, .int d] (hp G) = some (some (.int (nI (probeC d page L))), hp G) := by
  rw [e_Lv_probeCost t _ _ (ob_Lv G ho)]
  simp only [s_Lv_height ho hi hk.1 hk.len, s_Lv_rowBits ho hi hk.2.1, s_Ji_bitCount, ci_some, bc_left d hk, n_lit, nI_add, n_mul]
  rfl
theorem s_Lv_wayFor (ho : okLv t) (hi : isLv G t page down L) (hk : okL page L) (d : Int32) : f_Lv_wayFor [.ref t, .int d] (hp G) = some (some (.int (nI (wayN d page L))), hp G) := by
  have h1 := passC_le d hk
  have h2 := probeC_le d hk
  rw [e_Lv_wayFor t _ _ (ob_Lv G ho)]
  simp (disch := omega) only [s_Lv_passCost ho hi hk, s_Lv_probeCost ho hi hk, ci_some, n_lt]
  unfold wayN
  by_cases h : probeC d page L < passC d page L <;> simp [h] <;> rfl
theorem s_Lv_costOf (ho : okLv t) (hi : isLv G t page down L) (hk : okL page L) (d : Int32) {w : Nat} (hw : w ≤ 1) : f_Lv_costOf [.ref t, .int (nI w), .int d] (hp G) = some (some (.int (nI (if w = 0 then passC d page L else probeC d page L))), hp G) := by
  rw [e_Lv_costOf t _ _ _ (ob_Lv G ho)]
  simp (disch := omega) only [s_Lv_passCost ho hi hk, s_Lv_probeCost ho hi hk, ci_some, n_lit, n_eq]
  by_cases h : w = 0 <;> simp [h]
/-- those ahead of a code in a row that goes upwards -/
theorem tw_at {l : List Nat} (hs : l.Pairwise (· < ·)) {c : Nat} : ∀ (hp : (l.takeWhile (· < c)).length < l.length), (l[(l.takeWhile (· < c)).length] = c ↔ c ∈ l) := by
  induction l with
  | nil => intro hp; simp at hp
  | cons x l ih =>
    obtain ⟨hx, hs'⟩ := List.pairwise_cons.mp hs
    intro hp
    by_cases h : x < c
    · have e : (x :: l).takeWhile (· < c) = x :: l.takeWhile (· < c) := by rw [List.takeWhile_cons]; simp [h]
      have hp' : (l.takeWhile (· < c)).length < l.length := by
        rw [e] at hp
        simpa using hp
      have := ih hs' hp'
      simp only [e, List.length_cons, List.getElem_cons_succ, List.mem_cons]
      rw [this]
      constructor
      · exact Or.inr
      · rintro (hh | hh)
        · omega
        · exact hh
    · have e : (x :: l).takeWhile (· < c) = [] := by rw [List.takeWhile_cons]; simp [h]
      simp only [e, List.length_nil, List.getElem_cons_zero, List.mem_cons]
      constructor
      · intro hh; exact Or.inl hh.symm
      · rintro (hh | hh)
        · exact hh.symm
        · have := hx _ hh; omega
theorem tw_mem {p : Nat → Bool} {x : Nat} : ∀ {l : List Nat}, x ∈ l.takeWhile p → p x = true
  | [], h => by simp at h
  | y :: l, h => by
    rw [List.takeWhile_cons] at h
    split at h
    · rename_i hy
      rcases List.mem_cons.mp h with rfl | h
      · exact hy
      · exact tw_mem h
    · simp at h
theorem tw_none {l : List Nat} {c : Nat} (hp : ¬ (l.takeWhile (· < c)).length < l.length) : c ∉ l := by
  intro h
  have h1 : l.takeWhile (· < c) = l := by
    have := (List.takeWhile_prefix (p := fun x => decide (x < c)) (l := l))
    exact this.eq_of_length (by have := this.length_le; omega)
  have h2 : ∀ x ∈ l, x < c := by
    intro x hx
    rw [← h1] at hx
    simpa using tw_mem hx
  have := h2 c h
  omega
theorem s_Lv_holdsCode (ho : okLv t) (hi : isLv G t page down L) (hk : okL page L) {c : Nat} (hc : c < 2147483648) : f_Lv_holdsCode [.ref t, .int (nI c)] (hp G) = some (some (.int (if c ∈ L.flatten then 1 else 0)), hp G) := by
  have hn := hk.2.1
  rw [e_Lv_holdsCode t _ _ (ob_Lv G ho), s_Lv_placeOf ho hi hn (fun c hc => (hk.2.2.2.1 c hc).1) hc, ci_some]
  simp (disch := omega) only [gg_Lv_entries _ ho, hi.1.1, Option.bind_some]
  have hle : (L.flatten.takeWhile (· < c)).length ≤ L.flatten.length := (List.takeWhile_prefix _).length_le
  by_cases h : (L.flatten.takeWhile (· < c)).length < L.flatten.length
  · rw [if_pos (by rw [n_lt (by omega) (by omega)]; exact h)]
    simp (disch := omega) only [gg_Lv_entry _ ho, rr_Lv_entry _ ho, hi.2.1 _ h, Option.bind_some]
    have hb := hk.cod h
    by_cases h2 : L.flatten[(L.flatten.takeWhile (· < c)).length] = c
    · rw [if_pos (by rw [h2]), if_pos ((tw_at hk.2.2.2.2.1 h).mp h2)]
    · rw [if_neg (fun q => h2 (n_inj (by omega) (by omega) q)), if_neg (fun q => h2 ((tw_at hk.2.2.2.2.1 h).mpr q))]
  · rw [if_neg (by rw [n_lt (by omega) (by omega)]; exact h), if_neg (tw_none h)]
end COST
