/-! what holds at every time: the JOB -/
theorem find_rng {p : Nat → Bool} {m n k : Nat} (h : ((List.range m).drop n).find? p = some k) : n ≤ k ∧ k < m ∧ p k = true ∧ ∀ j, n ≤ j → j < k → p j = false := by
  rw [List.find?_eq_some_iff_append] at h
  obtain ⟨hpk, as, bs, e, hno⟩ := h
  have hget : ∀ t (ht : t < ((List.range m).drop n).length), ((List.range m).drop n)[t] = n + t := fun t ht => by rw [List.getElem_drop, List.getElem_range]
  have hlen : ((List.range m).drop n).length = as.length + (bs.length + 1) := by rw [e, List.length_append, List.length_cons]
  have hlen2 : ((List.range m).drop n).length = m - n := by rw [List.length_drop, List.length_range]
  have hk : k = n + as.length := by
    have h1 := hget as.length (by omega)
    rw [← h1]
    simp [e]
  refine ⟨by omega, by omega, hpk, fun j hj1 hj2 => ?_⟩
  have hlt : j - n < as.length := by omega
  have h1 := hget (j - n) (by omega)
  have h2 : ((List.range m).drop n)[j - n]'(by omega) = as[j - n] := by
    simp only [e]
    rw [List.getElem_append_left hlt]
  have : as[j - n] = j := by rw [← h2, h1]; omega
  have := hno _ (List.getElem_mem hlt)
  rw [‹as[j - n] = j›] at this
  simpa using this
theorem find_non {p : Nat → Bool} {m n : Nat} (h : ((List.range m).drop n).find? p = none) : ∀ j, n ≤ j → j < m → p j = false := by
  rw [List.find?_eq_none] at h
  intro j hj1 hj2
  have : j ∈ (List.range m).drop n := by
    rw [List.mem_iff_getElem]
    refine ⟨j - n, by rw [List.length_drop, List.length_range]; omega, ?_⟩
    rw [List.getElem_drop, List.getElem_range]
    omega
  simpa using h j this
theorem sum_upd {f : Nat → Nat} {i x : Nat} : ∀ {n : Nat}, i < n → ((List.range n).map (fun j => if j = i then x else f j)).sum + f i = ((List.range n).map f).sum + x := by
  have hsame : ∀ n, n ≤ i → (List.range n).map (fun j => if j = i then x else f j) = (List.range n).map f := fun n hn => List.map_congr_left (fun j hj => if_neg (by have := List.mem_range.mp hj; omega))
  intro n
  induction n with
  | zero => intro h; omega
  | succ n ih =>
    intro h
    rw [List.range_succ, List.map_append, List.map_append, List.sum_append, List.sum_append]
    simp only [List.map_cons, List.map_nil, List.sum_cons, List.sum_nil]
    by_cases e : n = i
    · subst e
      rw [if_pos rfl, hsame n (Nat.le_refl _)]
      omega
    · rw [if_neg e]
      have := ih (by omega)
      omega
section INJ
variable {P : PP} {A : AS}
theorem sum_set {i : Nat} (hi : i < pNi P) (L : LL) : sumL P (setL A i L) + leftN (aC A) (aL A i) = sumL P A + leftN (aC A) L := by
  have : sumL P (setL A i L) = ((List.range (pNi P)).map (fun j => if j = i then leftN (aC A) L else leftN (aC A) (aL A j))).sum := by
    unfold sumL
    refine congrArg List.sum (List.map_congr_left (fun j _ => ?_))
    show leftN (aC A) (if j = i then L else aL A j) = _
    split <;> rfl
  rw [this]
  exact sum_upd (f := fun j => leftN (aC A) (aL A j)) hi
theorem sum_le (hk : ∀ i, i < 4 → okL (pPg P) (aL A i)) (hn : pNi P ≤ 4) : sumL P A ≤ 120 := by
  unfold sumL
  have hle : ∀ i, i < 4 → leftN (aC A) (aL A i) ≤ 30 := fun i hi => Nat.le_trans (leftN_le _ _) (hk i hi).2.1
  have h0 := hle 0 (by omega)
  have h1 := hle 1 (by omega)
  have h2 := hle 2 (by omega)
  have h3 := hle 3 (by omega)
  rcases (show pNi P = 0 ∨ pNi P = 1 ∨ pNi P = 2 ∨ pNi P = 3 ∨ pNi P = 4 by omega) with e | e | e | e | e <;> rw [e] <;> simp [List.range_succ] <;> omega
theorem has_left {page i : Nat} (hk : okL page (aL A i)) : hasLeft A i = !decide (leftN (aC A) (aL A i) = 0) := by
  unfold hasLeft
  by_cases h : leftN (aC A) (aL A i) = 0
  · rw [decide_eq_true h, decide_eq_true ((rb_0 hk).mpr h)]
  · rw [decide_eq_false h, decide_eq_false (fun q => h ((rb_0 hk).mp q))]
theorem okV_not {i c : Nat} (h : okV P A i c) : bt (aC A) (c % 32) = false := (visA_d (Nat.mod_lt _ (by decide)) h.2.2).2
/-- where the JOB comes to: all trees below n are without CHOSEN ones -/
theorem come_inv (hP : okPP P) (hkR : okR (aV A) (aM A) (aD A) (aC A)) (hkP : okP (aN A) (aS A) (aT A)) (hkL : ∀ i, i < 4 → okL (pPg P) (aL A i)) {J : JB} {n : Nat}
    (hre : (jRe J).length ≤ 120) (hre2 : ∀ r ∈ jRe J, r.1 ≤ 3 ∧ r.2.1 ≤ 30) (hsd : jSd J = []) (hsi : jSi J = 0) (hiP : invP A) (hiO : onlyI P A (visA A)) (hiC : onlyI P A (aC A)) (hiB : invB A)
    (hlo : ∀ i, i < pNi P → i < n → ∀ c, c ∈ (aL A i).flatten ↔ okV P A i c) (hhi : ∀ i, i < pNi P → n ≤ i → ∀ c, c ∈ (aL A i).flatten ↔ okV P A i c ∨ okC P A i c)
    (hsum : (jRe J).length + sumL P A ≤ 120) (hH : jRe J = [] → n = 0) : INV P (comeA P A J n) := by
  have hn := hP.2.1
  have hno : ∀ i, i < pNi P → n ≤ i → hasLeft A i = false → (∀ c, c ∈ (aL A i).flatten ↔ okV P A i c) ∧ ∀ c, ¬ okC P A i c := fun i hi hni hl => by
    rw [has_left (hkL i (by omega))] at hl
    have h0 : leftN (aC A) (aL A i) = 0 := by simpa using hl
    have h1 := left_0.mp h0
    have hnc : ∀ c, ¬ okC P A i c := fun c hc => b_no hc.2.2 (h1 c ((hhi i hi hni c).mpr (Or.inr hc)))
    exact ⟨fun c => (hhi i hi hni c).trans ⟨fun q => q.resolve_right (hnc c), Or.inl⟩, hnc⟩
  unfold comeA
  cases hf : ((List.range (pNi P)).drop n).find? (hasLeft A) with
  | none =>
    have hnl := find_non hf
    refine ⟨⟨hP, hkR, hkP, hkL, ?_⟩, ⟨hiP, hiO, hiC⟩, fun i hi ha c => ?_, fun q => absurd q (by simp [comeAt, setJ, aJ]), fun J' hJ' => ?_⟩
    · refine ⟨Nat.le_refl 4, hre, ?_, Nat.zero_le _, ?_, hre2, Or.inl rfl⟩
      · show (jSd J).length ≤ 40
        rw [hsd]; decide
      · show jSi J ≤ 30
        omega
    · show c ∈ (aL A i).flatten ↔ okV P A i c ∨ (okC P A i c ∧ 4 < i)
      have h2 : ∀ c, c ∈ (aL A i).flatten ↔ okV P A i c := by
        by_cases hin : i < n
        · exact hlo i hi hin
        · exact (hno i hi (by omega) (hnl i (by omega) hi)).1
      rw [h2]
      exact ⟨Or.inl, fun q => q.resolve_right (fun q2 => by omega)⟩
    · have e : comeJ J 4 (-1) (jSt J) = J' := Option.some.inj hJ'
      subst e
      refine ⟨Or.inr ⟨rfl, hsd, hsi, rfl⟩, fun q => absurd (show 4 < pNi P from q) (by omega), ?_, hiB, fun hr0 => ⟨fun i hi _ c hc => ?_, fun q => absurd (show 4 < pNi P from q) (by omega)⟩⟩
      · show (jRe J).length + jSi J + sumL P A ≤ 120
        omega
      · have hn0 := hH hr0
        exact (hno i hi (by omega) (hnl i (by omega) hi)).2 c hc
  | some k =>
    obtain ⟨k1, k2, k3, k4⟩ := find_rng hf
    have hlk : 1 ≤ leftN (aC A) (aL A k) := by
      rw [has_left (hkL k (by omega))] at k3
      have : ¬ leftN (aC A) (aL A k) = 0 := by simpa using k3
      omega
    have hw : wayN (aC A) (pPg P) (aL A k) = 0 ∨ wayN (aC A) (pPg P) (aL A k) = 1 := by
      unfold wayN
      split
      · exact Or.inr rfl
      · exact Or.inl rfl
    have hw2 : nI (wayN (aC A) (pPg P) (aL A k)) = 0 ∨ nI (wayN (aC A) (pPg P) (aL A k)) = 1 := by
      rcases hw with e | e <;> rw [e]
      · exact Or.inl rfl
      · exact Or.inr rfl
    refine ⟨⟨hP, hkR, hkP, hkL, ?_⟩, ⟨hiP, hiO, hiC⟩, fun i hi ha c => ?_, fun q => absurd q (by simp [comeAt, setJ, setX, aJ]), fun J' hJ' => ?_⟩
    · refine ⟨by show k ≤ 4; omega, hre, ?_, Nat.zero_le _, ?_, hre2, Or.inr hw2⟩
      · show (jSd J).length ≤ 40
        rw [hsd]; decide
      · show jSi J ≤ 30
        omega
    · show c ∈ (aL A i).flatten ↔ okV P A i c ∨ (okC P A i c ∧ k < i)
      have hik : k ≠ i := by
        have : decide (k = i) = false := ha
        simpa using this
      by_cases hlt : i < k
      · have h2 : ∀ c, c ∈ (aL A i).flatten ↔ okV P A i c := by
          by_cases hin : i < n
          · exact hlo i hi hin
          · exact (hno i hi (by omega) (k4 i (by omega) hlt)).1
        rw [h2]
        exact ⟨Or.inl, fun q => q.resolve_right (fun q2 => by omega)⟩
      · rw [hhi i hi (by omega)]
        exact ⟨fun q => q.imp id (fun q => ⟨q, by omega⟩), fun q => q.imp id (fun q => q.1)⟩
    · have e : comeJ J k (nI (wayN (aC A) (pPg P) (aL A k))) (aL A k) = J' := Option.some.inj hJ'
      subst e
      refine ⟨Or.inl k2, fun _ => ⟨⟨?_, ?_⟩, ?_, ⟨hkL k (by omega), fun c _ => Iff.rfl, ?_, ?_, fun _ => rfl⟩, hlk, ?_, ?_, hw2⟩, ?_, hiB, fun hr0 => ⟨fun i hi hlt c hc => ?_, fun _ c hc => ?_⟩⟩
      · show rpl P k (baseA A k) (jSd J) (okV P A k)
        rw [hsd]
        intro c
        unfold baseA
        rw [hhi k k2 k1]
        constructor
        · rintro ⟨q | q, h⟩
          · exact q
          · exact (b_no q.2.2 h).elim
        · exact fun q => ⟨Or.inl q, okV_not q⟩
      · intro x hx
        have hx' : x ∈ jSd J := hx
        rw [hsd] at hx'
        exact absurd hx' (by simp)
      · intro c hc hc2
        rcases (hhi k k2 k1 c).mp hc with q | q
        · exact (b_no hc2 (okV_not q)).elim
        · exact q
      · intro c hc hc2
        rcases (hhi k k2 k1 c).mp hc with q | q
        · exact (b_no hc2 (okV_not q)).elim
        · exact q
      · show leftN (aC A) (aL A k) = leftN (aC A) (aL A k) + jSi J
        omega
      · show 0 + leftN (aC A) (aL A k) ≤ 30
        have := leftN_le (aC A) (aL A k)
        have := (hkL k (by omega)).2.1
        omega
      · show jSi J ≤ 0
        omega
      · show (jRe J).length + jSi J + sumL P A ≤ 120
        omega
      · have hn0 := hH hr0
        exact (hno i hi (by omega) (k4 i (by omega) hlt)).2 c hc
      · exact (hhi k k2 k1 c).mpr (Or.inr hc)
theorem join_inv (h : INV P A) {i : Nat} (hi : i < pNi P) (ha : isAtA A i = false) : INV P (joinA P A i) := by
  obtain ⟨⟨hP, k1, k2, k3, k4⟩, hpo, iT, iN, iJ⟩ := id h
  have hn := hP.2.1
  have hL : ∀ j, (aL (joinA P A i) j).flatten = (aL A j).flatten := fun j => by
    show (if j = i then packL (pPg P) (aL A i) else aL A j).flatten = _
    split
    · rename_i e; rw [e, pack_flat]
    · rfl
  have hl : ∀ j, leftN (aC A) (aL (joinA P A i) j) = leftN (aC A) (aL A j) := fun j => by unfold leftN; rw [hL]
  have hs : sumL P (joinA P A i) = sumL P A := sum_congr (fun j _ => hl j)
  have hLat : ∀ J, aJ A = some J → aL (joinA P A i) (jAt J) = aL A (jAt J) := fun J hJ => by
    have : jAt J ≠ i := fun e => by
      have : isAtA A i = true := by unfold isAtA atO; rw [hJ]; simp [e]
      exact b_no this ha
    exact if_neg this
  refine ⟨⟨hP, k1, k2, fun j hj => ?_, k4⟩, hpo, fun j hj hja c => ?_, iN, fun J hJ => ?_⟩
  · show okL _ (if j = i then packL (pPg P) (aL A i) else aL A j)
    split
    · exact pack_ok (k3 i (by omega))
    · exact k3 j hj
  · rw [hL]
    exact iT j hj hja c
  · obtain ⟨j1, j2, j3, j4, j5⟩ := iJ J hJ
    refine ⟨j1, fun hat => ?_, by rw [hs]; exact j3, j4, j5⟩
    have := j2 hat
    unfold invAt invSt baseA at this ⊢
    rw [hLat J hJ]
    exact this
theorem rise_inv (h : INV P A) {J : JB} (hJ : aJ A = some J) : INV P (riseA P A J) := by
  obtain ⟨⟨hP, k1, k2, k3, k4⟩, hpo, iT, iN, iJ⟩ := id h
  rw [hJ] at k4
  have h1 : INV P (setJ A (some (jDown J false))) := by
    refine ⟨⟨hP, k1, k2, k3, k4⟩, hpo, fun i hi ha c => ?_, fun q => absurd q (by simp [setJ, aJ]), fun J' hJ' => ?_⟩
    · have := iT i hi (by unfold isAtA; rw [hJ]; exact ha) c
      rw [hJ] at this
      exact this
    · have e : jDown J false = J' := Option.some.inj hJ'
      subst e
      exact iJ J hJ
  unfold riseA
  split
  · exact h1
  · exact h1
theorem fall_inv (h : INV P A) {J : JB} (hJ : aJ A = some J) : INV P (fallA P A J) := by
  obtain ⟨⟨hP, k1, k2, k3, k4⟩, hpo, iT, iN, iJ⟩ := id h
  have hn := hP.2.1
  rw [hJ] at k4
  obtain ⟨q1, q2, q3, q4, q5, q6, q7⟩ := k4
  obtain ⟨j1, j2, j3, j4, j5⟩ := iJ J hJ
  have hk4 : okJ (jFall J) := ⟨q1, q2, q3, by show jGo J - jSi J ≤ 30; omega, Nat.zero_le _, q6, q7⟩
  have hat : ∀ i, isAtA A i = decide (jAt J = i) := fun i => by unfold isAtA; rw [hJ]; exact (show atO (some J) i = decide (jAt J = i) from rfl)
  have hatN : atN (aJ A) = jAt J := by rw [hJ]; rfl
  unfold fallA
  by_cases ha : jAt J < pNi P
  · rw [if_pos ha]
    obtain ⟨⟨a1, a0⟩, a2, ⟨a3, a4, a5, a6, a6b⟩, a7, a8, a9, a10⟩ := j2 ha
    have eLn : ∀ j, j ≠ jAt J → aL (setJ (setL A (jAt J) (jSt J)) (some (jFall J))) j = aL A j := fun j hj => if_neg hj
    have eLa : aL (setJ (setL A (jAt J) (jSt J)) (some (jFall J))) (jAt J) = jSt J := if_pos rfl
    refine ⟨⟨hP, k1, k2, fun j hj => ?_, hk4⟩, hpo, fun i hi hia c => ?_, fun q => absurd q (by simp [setJ, aJ]), fun J' hJ' => ?_⟩
    · by_cases e : j = jAt J
      · rw [e, eLa]; exact a3
      · rw [eLn j e]; exact k3 j hj
    · have hne : jAt J ≠ i := by
        have : decide (jAt J = i) = false := hia
        simpa using this
      rw [eLn i (fun e => hne e.symm)]
      have := iT i hi (by rw [hat]; exact decide_eq_false hne) c
      rw [hatN] at this
      exact this
    · have e : jFall J = J' := Option.some.inj hJ'
      subst e
      have hs := sum_set (A := A) ha (jSt J)
      refine ⟨Or.inl ha, fun _ => ⟨⟨?_, a0⟩, ?_, ⟨a3, ?_, a5, ?_, ?_⟩, ?_, ?_, Nat.zero_le _, a10⟩, ?_, j4, fun hr0 => j5 hr0⟩
      · refine rpl_l (fun c => ?_) a1
        show (c ∈ (aL A (jAt J)).flatten ∧ bt (aC A) (c % 32) = false) ↔ (c ∈ (aL (setJ (setL A (jAt J) (jSt J)) (some (jFall J))) (jAt J)).flatten ∧ bt (aC A) (c % 32) = false)
        rw [eLa]
        exact ⟨fun q => ⟨(a4 c q.2).mpr q.1, q.2⟩, fun q => ⟨(a4 c q.2).mp q.1, q.2⟩⟩
      · intro c hc hc2
        rw [show jAt (jFall J) = jAt J from rfl, eLa] at hc
        exact a5 c hc hc2
      · intro c _
        rw [show jAt (jFall J) = jAt J from rfl, eLa]
        exact Iff.rfl
      · show leftN (aC A) (jSt J) = leftN (aC A) (aL (setJ (setL A (jAt J) (jSt J)) (some (jFall J))) (jAt J)) + 0
        rw [eLa]
        rfl
      · intro _
        exact eLa.symm
      · show 1 ≤ leftN (aC A) (aL (setJ (setL A (jAt J) (jSt J)) (some (jFall J))) (jAt J))
        rw [eLa]; omega
      · show jGo J - jSi J + leftN (aC A) (aL (setJ (setL A (jAt J) (jSt J)) (some (jFall J))) (jAt J)) ≤ 30
        rw [eLa]; omega
      · show (jRe J).length + 0 + sumL P (setL A (jAt J) (jSt J)) ≤ 120
        omega
  · rw [if_neg ha]
    obtain ⟨b1, b2, b3, b4⟩ := j1.resolve_left ha
    refine ⟨⟨hP, k1, k2, k3, hk4⟩, hpo, fun i hi hia c => ?_, fun q => absurd q (by simp [setJ, aJ]), fun J' hJ' => ?_⟩
    · have := iT i hi (by rw [hat]; exact hia) c
      rw [hatN] at this
      exact this
    · have e : jFall J = J' := Option.some.inj hJ'
      subst e
      refine ⟨Or.inr ⟨b1, b2, rfl, b4⟩, fun q => absurd q ha, ?_, j4, fun hr0 => ⟨(j5 hr0).1, fun q => absurd q ha⟩⟩
      show (jRe J).length + 0 + sumL P A ≤ 120
      omega
theorem over_inv (h : INV P A) {J : JB} (hJ : aJ A = some J) (ha : ¬ jAt J < pNi P) : INV P (doneA A) := by
  obtain ⟨⟨hP, k1, k2, k3, k4⟩, ⟨iP, iO, iC⟩, iT, iN, iJ⟩ := id h
  have hn := hP.2.1
  obtain ⟨j1, j2, j3, j4, j5⟩ := iJ J hJ
  obtain ⟨b1, b2, b3, b4⟩ := j1.resolve_left ha
  have hvis : ∀ q, bt (visA (doneA A)) q = bt (visA A) q := fun q => by
    by_cases hq : q < 32
    · unfold visA
      show bt (visB (aD A &&& (aC A ^^^ (-1))) 0) q = _
      rw [bt_vis _ _ hq, bt_vis _ _ hq, b_and, bt_not _ hq, b_0]
      simp
    · rw [b_big (by omega), b_big (by omega)]
  refine ⟨⟨hP, ⟨k1.1, k1.2.1, fun q hq => ?_, fun q hq => ?_⟩, k2, k3, trivial⟩, ⟨fun p hp1 v hv e => ?_, fun i hi hk2 q w hq hw e => ?_, fun i hi hk2 q w hq hw e => ?_⟩, fun i hi hia c => ?_, fun _ => ⟨rfl, fun _ _ => rfl⟩, fun J' hJ' => absurd hJ' (by simp [doneA, setT, setJ, aJ])⟩
  · have : bt (aD A &&& (aC A ^^^ (-1))) q = true := hq
    rw [b_and] at this
    simp only [Bool.and_eq_true] at this
    exact k1.2.2.1 q this.1
  · have : bt (0 : Int32) q = true := hq
    rw [b_0] at this
    exact absurd this (by decide)
  · obtain ⟨q, q1, q2⟩ := iP p hp1 v hv e
    exact ⟨q, by rw [hvis]; exact q1, q2⟩
  · rw [hvis] at hq hw
    exact iO i hi hk2 q w hq hw e
  · have : bt (0 : Int32) q = true := hq
    rw [b_0] at this
    exact absurd this (by decide)
  · have hne : isAtA A i = false := by
      unfold isAtA atO
      rw [hJ]
      simp
      omega
    have := iT i hi hne c
    rw [hJ] at this
    have e4 : atN (some J) = 4 := b1
    rw [e4] at this
    show c ∈ (aL A i).flatten ↔ _
    rw [this, okV_loc (A := A) (B := doneA A) hP hi (fun _ _ => rfl) (hvis _)]
    refine or_congr Iff.rfl ⟨fun q => by omega, fun q => ?_⟩
    have : bt (0 : Int32) (c % 32) = true := q.1.2.2
    rw [b_0] at this
    exact absurd this (by decide)
end INJ
