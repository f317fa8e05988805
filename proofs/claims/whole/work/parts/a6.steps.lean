/-! what STEPS leave: how many are left, in which order they go -/
theorem comeA_L (P : PP) (A : AS) (J : JB) (n : Nat) : aL (comeA P A J n) = aL A ∧ aC (comeA P A J n) = aC A := by
  unfold comeA
  cases ((List.range (pNi P)).drop n).find? (hasLeft A) <;> exact ⟨rfl, rfl⟩
theorem adv_same (P : PP) (A : AS) (J : JB) (c : Nat) : aC (advA P A J c) = aC A ∧ ∀ k, k ≠ jAt J → aL (advA P A J c) k = aL A k := by
  unfold advA
  split
  · exact ⟨rfl, fun k hk => if_neg hk⟩
  · unfold stepEnd
    split
    · rw [(comeA_L _ _ _ _).1, (comeA_L _ _ _ _).2]
      unfold carA
      split
      · refine ⟨rfl, fun k hk => ?_⟩
        show (if k = jAt J then _ else aL (stepA A J c) k) = aL A k
        rw [if_neg hk]
        exact if_neg hk
      · exact ⟨rfl, fun k hk => if_neg hk⟩
    · exact ⟨rfl, fun k hk => if_neg hk⟩
theorem adv_more {P : PP} {A : AS} {J : JB} {c : Nat} (hl : lastA A J c = false) : aL (advA P A J c) (jAt J) = takL c (aL A (jAt J)) ∧ ∃ J', aJ (advA P A J c) = some J' ∧ jAt J' = jAt J ∧ jWy J' = jWy J ∧ jDn J' = jDn J := by
  unfold advA
  split
  · exact ⟨if_pos rfl, _, rfl, rfl, rfl, rfl⟩
  · unfold stepEnd
    rw [hl, if_neg (by decide)]
    exact ⟨if_pos rfl, _, rfl, rfl, rfl, rfl⟩
theorem adv_last {P : PP} {A : AS} {J : JB} {c : Nat} (hl : lastA A J c = true) : ∃ J', aJ (advA P A J c) = some J' ∧ jDn J' = jDn J ∧ (jAt J' = 4 ∨ (jAt J < jAt J' ∧ jWy J' = nI (wayN (aC A) (pPg P) (aL (advA P A J c) (jAt J'))))) := by
  have e : advA P A J c = stepEnd P (stepA A J c) (stepJ J) true := by
    unfold advA
    rw [hl, if_neg (fun q => by cases q.1)]
  rw [e]
  unfold stepEnd
  rw [if_pos rfl, (comeA_L _ _ _ _).1]
  unfold comeA
  generalize hX : carA P (recA (stepA A J c) (stepJ J)) (recJ (stepJ J) (aX (stepA A J c) + 1) (aL (stepA A J c) (jAt (stepJ J)))) = X
  have hC : aC X = aC A := by
    rw [← hX]
    unfold carA
    split <;> rfl
  cases hf : ((List.range (pNi P)).drop (jAt (stepJ J) + 1)).find? (hasLeft X) with
  | none => exact ⟨_, rfl, rfl, Or.inl rfl⟩
  | some i =>
    refine ⟨_, rfl, rfl, Or.inr ⟨?_, ?_⟩⟩
    · have hm := List.mem_of_find?_eq_some hf
      show jAt J < i
      obtain ⟨q, hq, e⟩ := List.mem_iff_getElem.mp hm
      rw [List.getElem_drop, List.getElem_range] at e
      have : jAt (stepJ J) = jAt J := rfl
      omega
    · show nI (wayN (aC X) (pPg P) (aL X i)) = nI (wayN (aC A) (pPg P) (aL X i))
      rw [hC]
theorem lefts_nodup {page : Nat} {L : LL} (w : Nat) (d : Int32) (hk : okL page L) : (leftsW w d L).Nodup := by
  unfold leftsW
  split
  · unfold leftsP
    exact List.Pairwise.sublist (List.Sublist.map _ List.filter_sublist) hk.2.2.2.2.2
  · unfold leftsR
    exact List.Pairwise.sublist List.filter_sublist List.nodup_range
theorem lefts_len {page : Nat} {L : LL} (w : Nat) (d : Int32) (hk : okL page L) : (leftsW w d L).length = leftN d L := by
  unfold leftsW
  split
  · unfold leftsP leftN
    rw [List.length_map]
  · rw [← bc_left d hk]
    unfold leftsR bc
    have h2 : (List.range 32) = List.range 30 ++ [30, 31] := rfl
    have h30 : ∀ r, 30 ≤ r → r < 32 → bt (rb L &&& d) r = false := fun r h1 h2 => by
      rw [b_and, bt_rb L h2]
      have : ¬ r ∈ L.flatten.map (· % 32) := fun q => by
        obtain ⟨c, hc, e⟩ := List.mem_map.mp q
        have := (hk.2.2.2.1 c hc).2
        omega
      rw [decide_eq_false this]
      rfl
    rw [h2, List.filter_append, List.filter_cons, h30 30 (by omega) (by omega), if_neg (by decide), List.filter_cons, h30 31 (by omega) (by omega), if_neg (by decide), List.filter_nil, List.append_nil]
theorem lefts_tak {page : Nat} {L : LL} (w : Nat) (d : Int32) (hk : okL page L) {c : Nat} (hc : c ∈ L.flatten) : leftsW w d (takL c L) = (leftsW w d L).filter (fun r => !(r == c % 32)) := by
  have hnd := hk.2.2.2.2.2
  have hinj : ∀ x ∈ L.flatten, x % 32 = c % 32 → x = c := fun x hx e => by
    obtain ⟨i, hi, ei⟩ := List.mem_iff_getElem.mp hx
    obtain ⟨j, hj, ej⟩ := List.mem_iff_getElem.mp hc
    have h1 : (L.flatten.map (· % 32))[i]'(by rw [List.length_map]; exact hi) = (L.flatten.map (· % 32))[j]'(by rw [List.length_map]; exact hj) := by
      rw [List.getElem_map, List.getElem_map, ei, ej]; exact e
    have := (List.getElem_inj hnd).mp h1
    subst this
    exact ei.symm.trans ej
  have hiff : ∀ x ∈ L.flatten, (!(x == c)) = !(x % 32 == c % 32) := fun x hx => by
    by_cases e : x = c
    · rw [e]; simp
    · have : ¬ x % 32 = c % 32 := fun q => e (hinj x hx q)
      rw [show (x == c) = false from beq_false_of_ne e, show (x % 32 == c % 32) = false from beq_false_of_ne this]
  unfold leftsW
  split
  · unfold leftsP
    rw [tak_flat, List.filter_map, List.filter_filter, List.filter_filter]
    congr 1
    apply List.filter_congr
    intro x hx
    rw [hiff x hx, Bool.and_comm]
    rfl
  · unfold leftsR
    rw [List.filter_filter]
    apply List.filter_congr
    intro r hr
    have hr32 : r < 32 := by have := List.mem_range.mp hr; omega
    rw [b_and, b_and, bt_rb _ hr32, bt_rb _ hr32, tak_flat]
    have : decide (r ∈ (L.flatten.filter (fun x => !(x == c))).map (· % 32)) = (decide (r ∈ L.flatten.map (· % 32)) && !(r == c % 32)) := by
      rw [Bool.eq_iff_iff, decide_eq_true_eq, Bool.and_eq_true, decide_eq_true_eq, List.mem_map, List.mem_map]
      constructor
      · rintro ⟨x, hx, e⟩
        obtain ⟨h1, h2⟩ := List.mem_filter.mp hx
        rw [hiff x h1, e] at h2
        exact ⟨⟨x, h1, e⟩, h2⟩
      · rintro ⟨⟨x, h1, e⟩, h2⟩
        exact ⟨x, List.mem_filter.mpr ⟨h1, by rw [hiff x h1, e]; exact h2⟩, e⟩
    rw [this]
    cases decide (r ∈ L.flatten.map (· % 32)) <;> cases bt d r <;> cases (r == c % 32) <;> rfl
theorem sum_one {f g : Nat → Nat} {a : Nat} (hf : ∀ k, k ≠ a → g k = f k) (ha : g a + 1 = f a) : ∀ i, (a < i → ((List.range i).map g).sum + 1 = ((List.range i).map f).sum) ∧ (i ≤ a → ((List.range i).map g).sum = ((List.range i).map f).sum)
  | 0 => ⟨fun h => absurd h (Nat.not_lt_zero _), fun _ => rfl⟩
  | i + 1 => by
    obtain ⟨h1, h2⟩ := sum_one hf ha i
    rw [List.range_succ, List.map_append, List.map_append, List.sum_append, List.sum_append]
    simp only [List.map_cons, List.map_nil, List.sum_cons, List.sum_nil, Nat.add_zero]
    refine ⟨fun h => ?_, fun h => ?_⟩
    · by_cases e : i = a
      · subst e
        have := h2 (Nat.le_refl _)
        omega
      · have := h1 (by omega)
        rw [hf i e]
        omega
    · rw [h2 (by omega), hf i (by omega)]
theorem sum_0 {f : Nat → Nat} : ∀ i, ((List.range i).map f).sum = 0 → ∀ k, k < i → f k = 0
  | 0, _, k, hk => absurd hk (Nat.not_lt_zero _)
  | i + 1, h, k, hk => by
    rw [List.range_succ, List.map_append, List.sum_append] at h
    simp only [List.map_cons, List.map_nil, List.sum_cons, List.sum_nil, Nat.add_zero] at h
    by_cases e : k = i
    · subst e; omega
    · exact sum_0 i (by omega) k (by omega)
theorem sum_le' {f : Nat → Nat} {i n : Nat} (h : i < n) : ((List.range i).map f).sum + f i ≤ ((List.range n).map f).sum := by
  obtain ⟨m, rfl⟩ : ∃ m, n = i + 1 + m := ⟨n - (i + 1), by omega⟩
  clear h
  induction m with
  | zero =>
    rw [Nat.add_zero, List.range_succ, List.map_append, List.sum_append]
    simp
  | succ m ih =>
    rw [← Nat.add_assoc, List.range_succ, List.map_append, List.sum_append]
    omega
section STQ
variable {P : PP} {A : AS} {J : JB}
/-- behind the index where the JOB is, none is left -/
theorem left_before (h : INV P A) (hJ : aJ A = some J) {k : Nat} (hk : k < pNi P) (hl : k < jAt J) : leftN (aC A) (aL A k) = 0 := by
  have hat : isAtA A k = false := by
    unfold isAtA atO
    rw [hJ]
    simp
    omega
  rw [left_0]
  intro c hc
  have hcl := (h.kl hk).2.2.2.1 c hc
  rcases (h.2.2.1 k hk hat c).mp hc with q | ⟨-, q⟩
  · exact (visA_d (by omega) q.2.2).2
  · rw [hJ] at q
    have : jAt J < k := q
    omega
/-- a STEP takes one -/
theorem adv_left (h : INV P A) (hJ : aJ A = some J) (ha : jAt J < pNi P) : leftN (aC A) (aL (advA P A J (nxC A J)) (jAt J)) + 1 = leftN (aC A) (aL A (jAt J)) := by
  obtain ⟨-, -, -, n4, n5, n6⟩ := nx_ok h hJ ha
  have h1 := left_tak (h.kl ha) n4 (show bt (aC A) (nxC A J % 32) = true by rw [n5]; exact n6)
  cases hl : lastA A J (nxC A J)
  · rw [(adv_more (P := P) hl).1]; exact h1
  · have hi := step_inv h hJ ha
    obtain ⟨J', q1, q2, q3⟩ := adv_last (P := P) hl
    have h0 : leftN (aC A) (takL (nxC A J) (aL A (jAt J))) = 0 := by
      unfold lastA at hl
      rw [decide_eq_true_eq, rb_0 (tak_ok (h.kl ha))] at hl
      exact hl
    have hlt : jAt J < jAt J' := by
      rcases q3 with q | q
      · have := h.ni; omega
      · exact q.1
    have := left_before hi q1 ha hlt
    rw [(adv_same P A J (nxC A J)).1] at this
    omega
theorem adv_sum (h : INV P A) (hJ : aJ A = some J) (ha : jAt J < pNi P) : sumL P (advA P A J (nxC A J)) + 1 = sumL P A := by
  obtain ⟨e1, e2⟩ := adv_same P A J (nxC A J)
  unfold sumL
  rw [e1]
  exact (sum_one (f := fun i => leftN (aC A) (aL A i)) (fun k hk => by show leftN _ (aL (advA P A J (nxC A J)) k) = _; rw [e2 k hk]) (adv_left h hJ ha) (pNi P)).1 ha
/-- the ways stay -/
theorem adv_way (h : INV P A) (hJ : aJ A = some J) (ha : jAt J < pNi P) {i : Nat} (hi : i < pNi P) (hc : i ≠ jAt J ∨ lastA A J (nxC A J) = false) : wayX P (advA P A J (nxC A J)) i = wayX P A i := by
  obtain ⟨e1, e2⟩ := adv_same P A J (nxC A J)
  have hd : doomA P A = aC A := by unfold doomA; rw [hJ]
  have hd2 : ∀ J', aJ (advA P A J (nxC A J)) = some J' → doomA P (advA P A J (nxC A J)) = aC A := fun J' q => by unfold doomA; rw [q, e1]
  have hA : wayX P A i = if jAt J = i then wayOf (jWy J) else wayN (aC A) (pPg P) (aL A i) := by
    unfold wayX
    rw [hJ, hd]
  rw [hA]
  cases hl : lastA A J (nxC A J)
  · obtain ⟨-, J', q1, q2, q3, -⟩ := adv_more (P := P) hl
    unfold wayX
    rw [q1, hd2 J' q1]
    dsimp only
    rw [q2, q3]
    by_cases e : jAt J = i
    · rw [if_pos e, if_pos e]
    · rw [if_neg e, if_neg e, e2 i (fun q => e q.symm)]
  · obtain ⟨J', q1, -, q3⟩ := adv_last (P := P) hl
    have hne : i ≠ jAt J := by
      rcases hc with q | q
      · exact q
      · rw [hl] at q; cases q
    have hn := h.ni
    unfold wayX
    rw [q1, hd2 J' q1]
    dsimp only
    rw [if_neg (show ¬ jAt J = i from fun q => hne q.symm)]
    by_cases e : jAt J' = i
    · rw [if_pos e]
      rcases q3 with q | ⟨-, q⟩
      · omega
      · have hle := wayN_le (aC A) (pPg P) (aL A i)
        rw [e, e2 i hne] at q
        rw [q]
        unfold wayOf
        by_cases z : wayN (aC A) (pPg P) (aL A i) = 0
        · rw [z, if_pos (by decide)]
        · rw [if_neg (show ¬ nI (wayN (aC A) (pPg P) (aL A i)) = (0 : Int32) from ln (n := 0) z (by omega) (by decide))]; omega
    · rw [if_neg e, e2 i hne]
/-- how many STEPS are left -/
def remS (P : PP) (A : AS) : Nat := match aJ A with
  | none => 0
  | some J => if jDn J then 0 else sumL P A + 1
theorem stA_rem (h : INV P A) (hs : (stA P A).1 ≠ -1) : remS P (stA P A).2 + 1 ≤ remS P A := by
  unfold stA at hs ⊢
  unfold remS
  cases hJ : aJ A with
  | none => rw [hJ] at hs; exact absurd rfl hs
  | some J =>
    rw [hJ] at hs
    dsimp only at hs ⊢
    cases hd : jDn J
    · rw [if_neg (show ¬ false = true by decide), if_neg (show ¬ false = true by decide)]
      by_cases ha : jAt J < pNi P
      · rw [if_pos ha]
        have := adv_sum h hJ ha
        dsimp only
        split
        · omega
        · split <;> omega
      · rw [if_neg ha]
        show 0 + 1 ≤ _
        omega
    · rw [hd, if_pos rfl] at hs
      exact absurd rfl hs
theorem goS_rem : ∀ (s : Nat) {A : AS}, INV P A → remS P A ≤ s → ∀ n m, s ≤ n → s ≤ m → (goS P n A).2 = (goS P m A).2 := by
  intro s
  induction s with
  | zero =>
    intro A h hr n m _ _
    have hno : (stA P A).1 = -1 := Classical.byContradiction fun q => by
      have := stA_rem h q
      omega
    have key : ∀ n, (goS P n A).2 = A := fun n => by
      cases n with
      | zero => rfl
      | succ n =>
        unfold goS
        rw [if_pos hno]
    rw [key, key]
  | succ s ih =>
    intro A h hr n m hn hm
    obtain ⟨n, rfl⟩ : ∃ q, n = q + 1 := ⟨n - 1, by omega⟩
    obtain ⟨m, rfl⟩ : ∃ q, m = q + 1 := ⟨m - 1, by omega⟩
    unfold goS
    by_cases hno : (stA P A).1 = -1
    · rw [if_pos hno, if_pos hno]
    · rw [if_neg hno, if_neg hno]
      have := stA_rem h hno
      exact ih (stA_inv h) (by omega) n m (by omega) (by omega)
theorem remS_le (h : INV P A) : remS P A ≤ 121 := by
  have := sum_le (P := P) (A := A) h.ka.2.2.1 h.ni
  unfold remS
  cases aJ A with
  | none => exact Nat.zero_le _
  | some J => dsimp only; split <;> omega
/-- when a ROW goes at an INDEX -/
theorem whn_run {i r : Nat} (hi : i < pNi P) (hr : r < 30) : ∀ (p f m n : Nat) {A : AS} {J : JB}, INV P A → aJ A = some J → jDn J = false → (leftsW (wayX P A i) (aC A) (aL A i))[n]? = some r → n + ((List.range i).map (fun k => leftN (aC A) (aL A k))).sum = p → p < f → whnR P i r f m A = nI (m + p) := by
  intro p
  induction p with
  | zero =>
    intro f m n A J h hJ hd hl hs hf
    obtain ⟨f, rfl⟩ : ∃ g, f = g + 1 := ⟨f - 1, by omega⟩
    have hn := h.ni
    have h0 := sum_0 i (by omega : ((List.range i).map (fun k => leftN (aC A) (aL A k))).sum = 0)
    obtain ⟨rr, hat⟩ : jAt J ≤ i ∧ True := by
      refine ⟨Classical.byContradiction fun q => ?_, trivial⟩
      have := left_before h hJ hi (by omega)
      have h2 := lefts_len (wayX P A i) (aC A) (h.kl hi)
      rw [List.getElem?_eq_none (by omega)] at hl
      cases hl
    have hat : jAt J = i := Classical.byContradiction fun q => by
      have h2 := ((h.2.2.2.2 J hJ).2.1 (by omega)).2.2.2.1
      have h3 : leftN (aC A) (aL A (jAt J)) = 0 := h0 (jAt J) (by omega)
      omega
    have ha : jAt J < pNi P := by omega
    have hw : wayX P A i = wayOf (jWy J) := by unfold wayX; rw [hJ]; exact if_pos hat
    have hnx : nxR A J = r := by
      unfold nxR
      rw [hat, ← hw]
      rw [show n = 0 by omega] at hl
      cases hq : leftsW (wayX P A i) (aC A) (aL A i) with
      | nil => rw [hq] at hl; cases hl
      | cons a t => rw [hq] at hl; exact Option.some.inj hl
    have hst : (stA P A).1 = nI (nxR A J) := by
      unfold stA
      rw [hJ]
      dsimp only
      rw [hd, if_neg (by decide), if_pos ha]
    unfold whnR
    rw [if_pos ⟨by rw [hst, hnx], by unfold atV; rw [hJ]; show nI (jAt J) = _; rw [hat]⟩, Nat.add_zero]
  | succ p ih =>
    intro f m n A J h hJ hd hl hs hf
    obtain ⟨f, rfl⟩ : ∃ g, f = g + 1 := ⟨f - 1, by omega⟩
    have hn := h.ni
    have hle : jAt J ≤ i := Classical.byContradiction fun q => by
      have := left_before h hJ hi (by omega)
      have h2 := lefts_len (wayX P A i) (aC A) (h.kl hi)
      rw [List.getElem?_eq_none (by omega)] at hl
      cases hl
    have ha : jAt J < pNi P := by omega
    obtain ⟨⟨rs, n1⟩, n2, n3, n4, n5, n6⟩ := nx_ok h hJ ha
    have hst : stA P A = (nI (nxR A J), advA P A J (nxC A J)) := by
      unfold stA
      rw [hJ]
      dsimp only
      rw [hd, if_neg (by decide), if_pos ha]
    obtain ⟨e1, e2⟩ := adv_same P A J (nxC A J)
    have hi2 := step_inv h hJ ha
    have hJ2 : ∃ J', aJ (advA P A J (nxC A J)) = some J' ∧ jDn J' = false := by
      cases hl2 : lastA A J (nxC A J)
      · obtain ⟨-, J', q1, -, -, q4⟩ := adv_more (P := P) hl2
        exact ⟨J', q1, by rw [q4, hd]⟩
      · obtain ⟨J', q1, q2, -⟩ := adv_last (P := P) hl2
        exact ⟨J', q1, by rw [q2, hd]⟩
    obtain ⟨J', hJ', hd'⟩ := hJ2
    unfold whnR
    by_cases hat : jAt J = i
    · -- at this INDEX: it is not the first
      have hz : ((List.range i).map (fun k => leftN (aC A) (aL A k))).sum = 0 := by
        have z : ∀ q, q ≤ i → ((List.range q).map (fun k => leftN (aC A) (aL A k))).sum = 0 := fun q => by
          induction q with
          | zero => intro _; rfl
          | succ q ih =>
            intro hq
            rw [List.range_succ, List.map_append, List.sum_append, ih (by omega)]
            simp only [List.map_cons, List.map_nil, List.sum_cons, List.sum_nil, Nat.add_zero, Nat.zero_add]
            exact left_before h hJ (by omega) (by omega)
        exact z i (Nat.le_refl _)
      have hw : wayX P A i = wayOf (jWy J) := by unfold wayX; rw [hJ]; exact if_pos hat
      have n1' : leftsW (wayX P A i) (aC A) (aL A i) = nxR A J :: rs := by rw [hw, ← hat]; exact n1
      have hnd := lefts_nodup (wayX P A i) (aC A) (h.kl hi)
      obtain ⟨q, rfl⟩ : ∃ q, n = q + 1 := ⟨n - 1, by omega⟩
      rw [n1'] at hnd hl
      have hl' : rs[q]? = some r := by simpa using hl
      have hmem : r ∈ rs := List.mem_of_getElem? hl'
      have hne : nxR A J ≠ r := fun e => (List.nodup_cons.mp hnd).1 (by rw [e]; exact hmem)
      have hlen := lefts_len (wayX P A i) (aC A) (h.kl hi)
      rw [n1', List.length_cons] at hlen
      have hrs : 1 ≤ rs.length := List.length_pos_of_mem hmem
      have htk := left_tak (h.kl ha) n4 (show bt (aC A) (nxC A J % 32) = true by rw [n5]; exact n6)
      have hnl : lastA A J (nxC A J) = false := by
        unfold lastA
        rw [decide_eq_false_iff_not, rb_0 (tak_ok (h.kl ha))]
        rw [hat] at htk ⊢
        omega
      rw [if_neg (fun e => hne (n_inj (by omega) (by omega) (by rw [hst] at e; exact e.1))), hst]
      have := ih f (m + 1) q hi2 hJ' hd' (by
        rw [adv_way h hJ ha hi (Or.inr hnl), e1, ← hat, (adv_more (P := P) hnl).1, lefts_tak _ _ (h.kl ha) n4, hat, n1', n5]
        have hf2 : (nxR A J :: rs).filter (fun r => !(r == nxR A J)) = rs := by
          rw [List.filter_cons, if_neg (by simp), List.filter_eq_self]
          intro x hx
          have : ¬ x = nxR A J := fun e => (List.nodup_cons.mp hnd).1 (by rw [← e]; exact hx)
          simp [this]
        rw [hf2]
        exact hl') (by
        have : ((List.range i).map (fun k => leftN (aC (advA P A J (nxC A J))) (aL (advA P A J (nxC A J)) k))).sum = ((List.range i).map (fun k => leftN (aC A) (aL A k))).sum := by
          congr 1
          apply List.map_congr_left
          intro k hk
          have := List.mem_range.mp hk
          rw [e1, e2 k (by omega)]
        omega) (by omega)
      rw [this]
      congr 1
      omega
    · have hlt : jAt J < i := by omega
      have hatV : ¬ atV A = nI i := by
        unfold atV
        rw [hJ]
        exact ln hat (by omega) (by omega)
      rw [if_neg (fun e => hatV e.2), hst]
      have hsum := (sum_one (f := fun k => leftN (aC A) (aL A k)) (g := fun k => leftN (aC A) (aL (advA P A J (nxC A J)) k)) (fun k hk => by show leftN _ (aL (advA P A J (nxC A J)) k) = leftN _ (aL A k); rw [e2 k hk]) (adv_left h hJ ha) i).1 hlt
      have := ih f (m + 1) n hi2 hJ' hd' (by
        rw [adv_way h hJ ha hi (Or.inl (fun e => hat e.symm)), e1, e2 i (fun e => hat e.symm)]
        exact hl) (by rw [e1]; omega) (by omega)
      rw [this]
      congr 1
      omega
end STQ
