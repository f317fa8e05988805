/-! SORTING in a small memory, merging, looking at references: what is common to both -/
def isAr (G : GG) (a : Nat) (l : List Nat) : Prop := ∀ i (h : i < l.length), G.1 a i = nI l[i]
theorem isAr.off {G G' : GG} {a : Nat} {l : List Nat} (h : isAr G a l) (e : G'.1 a = G.1 a) : isAr G' a l := fun i hi => by rw [e]; exact h i hi
theorem isAr.set {G : GG} {a : Nat} {l : List Nat} (h : isAr G a l) {k : Nat} (v : Nat) : isAr (gsi G a k (nI v)) a (l.set k v) := fun i hi => by
  rw [List.length_set] at hi
  rw [gsi_i, if_pos rfl, List.getElem_set]
  by_cases e : k = i
  · rw [if_pos e, e, upd_at]
  · rw [if_neg e, upd_ne _ _ (fun q => e q.symm)]; exact h i hi
theorem isAr.push {G : GG} {a : Nat} {l : List Nat} (h : isAr G a l) (v : Nat) : isAr (gsi G a l.length (nI v)) a (l ++ [v]) := fun i hi => by
  rw [List.length_append] at hi
  simp only [List.length_cons, List.length_nil] at hi
  rw [gsi_i, if_pos rfl]
  by_cases e : i = l.length
  · subst e
    rw [upd_at]
    simp
  · rw [upd_ne _ _ e, List.getElem_append_left (by omega)]; exact h i (by omega)
theorem isAr.take {G : GG} {a : Nat} {l : List Nat} (h : isAr G a l) (n : Nat) : isAr G a (l.take n) := fun i hi => by
  rw [List.length_take] at hi
  rw [List.getElem_take]; exact h i (by omega)
theorem isAr.oth {G : GG} {a b : Nat} {l : List Nat} (h : isAr G a l) (hab : a ≠ b) (k : Nat) (x : Int32) : isAr (gsi G b k x) a l := h.off (by rw [gsi_i, if_neg hab])
theorem isAr.at {G : GG} {a : Nat} {l : List Nat} (h : isAr G a l) {i : Nat} (hi : i < l.length) : G.1 a i = nI (l.getD i 0) := by rw [getD_get hi]; exact h i hi
/-- which are queued -/
def qsF (d : Int32) (L : LL) (r : Nat) : Option Nat := if bt d r then L.flatten.find? (fun c => decide (c % 32 = r)) else none
def qsL (d : Int32) (L : LL) : List Nat := (List.range 30).filterMap (qsF d L)
theorem qsF_lt {page : Nat} {d : Int32} {L : LL} (hk : okL page L) {r c : Nat} (h : qsF d L r = some c) : c < 32000 := by
  unfold qsF at h
  split at h
  · exact (hk.2.2.2.1 c (List.mem_of_find?_eq_some h)).1
  · cases h
theorem qsL_len (d : Int32) (L : LL) : (qsL d L).length ≤ 30 := by
  refine Nat.le_trans (List.length_filterMap_le _ _) ?_
  simp
theorem qsL_lt {page : Nat} {d : Int32} {L : LL} (hk : okL page L) : ∀ c ∈ qsL d L, c < 32000 := fun c hc => by
  obtain ⟨r, -, h⟩ := List.mem_filterMap.mp hc
  exact qsF_lt hk h
/-- where the least from some value on stands -/
def fbF (M : List Nat) (a : Nat) (o : Option Nat) (i : Nat) : Option Nat := if a ≤ M.getD i 0 then (match o with
  | none => some i
  | some b => if M.getD i 0 < M.getD b 0 then some i else some b) else o
def fb (M : List Nat) (a : Nat) : Option Nat := (List.range M.length).foldl (fbF M a) none
def fbI : Option Nat → Int32
  | none => -1
  | some b => nI b
def lst (a : Nat) : Int32 := if a = 0 then -1 else nI (a - 1)
theorem lst_lt {a m : Nat} (ha : a ≤ 2147483648) (hm : m < 2147483648) : (lst a < nI m) = (a ≤ m) := by
  unfold lst
  by_cases e : a = 0
  · rw [if_pos e, e]
    simp [n_lt1 hm]
  · rw [if_neg e, n_lt (by omega) hm, propext (show a - 1 < m ↔ a ≤ m by omega)]
theorem lst_s (c : Nat) : lst (c + 1) = nI c := by unfold lst; rw [if_neg (by omega)]; rfl
theorem fbF_lt {M : List Nat} {a : Nat} {o : Option Nat} {i : Nat} (h : ∀ b, o = some b → b < i) : ∀ b, fbF M a o i = some b → b < i + 1 := fun b hb => by
  unfold fbF at hb
  split at hb
  · cases o with
    | none => have := Option.some.inj hb; omega
    | some c =>
      dsimp only at hb
      split at hb
      · have := Option.some.inj hb; omega
      · have := h b hb; omega
  · have := h b hb; omega
theorem fold_I {σ : Type} {g : σ → Nat → σ} {I : Nat → σ → Prop} {a : σ} (h0 : I 0 a) (h : ∀ i a, I i a → I (i + 1) (g a i)) : ∀ n, I n ((List.range n).foldl g a)
  | 0 => h0
  | n + 1 => by rw [List.range_succ, List.foldl_append]; exact h n _ (fold_I h0 h n)
theorem fb_lt {M : List Nat} {a b : Nat} (h : fb M a = some b) : b < M.length := by
  have := fold_I (g := fbF M a) (I := fun i o => ∀ b, o = some b → b < i) (a := none) (fun b q => by cases q) (fun i o hi => fbF_lt hi) M.length
  exact this b h
theorem fb0 {M : List Nat} (h : M ≠ []) : ∃ b, fb M 0 = some b := by
  have key := fold_I (g := fbF M 0) (I := fun i o => 0 < i → ∃ b, o = some b) (a := none) (fun q => absurd q (by decide)) (fun i o _ _ => by
    unfold fbF
    rw [if_pos (Nat.zero_le _)]
    cases o with
    | none => exact ⟨_, rfl⟩
    | some c => dsimp only; split <;> exact ⟨_, rfl⟩) M.length
  exact key (List.length_pos_iff.mpr h)
/-- one goes out: the runs, which -/
def srB (M : List Nat) (a : Nat) (l : List Nat) : List Nat × Nat := match (if l = [] then none else fb M a) with
  | none => (l ++ [0], (fb M 0).getD 0)
  | some b => (l, b)
def inc (l : List Nat) : List Nat := l.set (l.length - 1) (l.getD (l.length - 1) 0 + 1)
def srN (M R : List Nat) (b : Nat) : List Nat × List Nat := match R with
  | x :: R => (M.set b x, R)
  | [] => ((M.set b (M.getD (M.length - 1) 0)).take (M.length - 1), [])
def srtR : Nat → List Nat → List Nat → Nat → List Nat → List Nat
  | 0, _, _, _, l => l
  | n + 1, M, R, a, l => srtR n (srN M R (srB M a l).2).1 (srN M R (srB M a l).2).2 (M.getD (srB M a l).2 0 + 1) (inc (srB M a l).1)
/-- the runs -/
def srtL (d : Int32) (L : LL) (room : Nat) : List Nat := srtR (qsL d L).length ((qsL d L).take room) ((qsL d L).drop room) 0 []
theorem srB_ok {M : List Nat} (hM : M ≠ []) (a : Nat) (l : List Nat) : (srB M a l).2 < M.length ∧ (srB M a l).1 ≠ [] ∧ (srB M a l).1.length ≤ l.length + 1 ∧ ∀ x ∈ (srB M a l).1, x ∈ l ∨ x = 0 := by
  unfold srB
  cases h : (if l = [] then none else fb M a) with
  | none =>
    obtain ⟨b, hb⟩ := fb0 hM
    refine ⟨by rw [hb]; exact fb_lt hb, by simp, by simp, fun x hx => ?_⟩
    rcases List.mem_append.mp hx with q | q
    · exact Or.inl q
    · exact Or.inr (by simpa using q)
  | some b =>
    have hl : l ≠ [] := fun e => by rw [if_pos e] at h; cases h
    rw [if_neg hl] at h
    exact ⟨fb_lt h, hl, Nat.le_succ _, fun x hx => Or.inl hx⟩
theorem inc_len (l : List Nat) : (inc l).length = l.length := by unfold inc; rw [List.length_set]
theorem inc_le {l : List Nat} {n : Nat} (h : ∀ x ∈ l, x ≤ n) : ∀ x ∈ inc l, x ≤ n + 1 := fun x hx => by
  unfold inc at hx
  rcases List.mem_or_eq_of_mem_set hx with q | q
  · have := h x q; omega
  · by_cases e : l.length - 1 < l.length
    · rw [getD_get e] at q
      have := h _ (List.getElem_mem e)
      omega
    · rw [show l = [] from List.length_eq_zero_iff.mp (by omega)] at q
      rw [q]
      show 0 + 1 ≤ n + 1
      omega
theorem srN_ok {M R : List Nat} {b n : Nat} (hM : M ≠ []) (hn : M.length + R.length = n + 1) : (srN M R b).1.length + (srN M R b).2.length = n ∧ (0 < n → (srN M R b).1 ≠ []) ∧ (srN M R b).1.length ≤ M.length := by
  have h1 := List.length_pos_iff.mpr hM
  cases R with
  | nil =>
    unfold srN
    rw [List.length_nil] at hn
    refine ⟨by simp; omega, fun h0 q => ?_, by simp⟩
    have := congrArg List.length q
    simp at this
    omega
  | cons x R =>
    unfold srN
    rw [List.length_cons] at hn
    refine ⟨by simp; omega, fun h0 q => ?_, by simp⟩
    exact hM (by simpa using q)
theorem srN_lt {M R : List Nat} {b N : Nat} (h0 : 0 < N) (hM : ∀ x ∈ M, x < N) (hR : ∀ x ∈ R, x < N) : (∀ x ∈ (srN M R b).1, x < N) ∧ ∀ x ∈ (srN M R b).2, x < N := by
  cases R with
  | nil =>
    unfold srN
    refine ⟨fun x hx => ?_, fun x hx => absurd hx (by simp)⟩
    rcases List.mem_or_eq_of_mem_set (List.mem_of_mem_take hx) with q | q
    · exact hM x q
    · rw [q]
      by_cases e : M.length - 1 < M.length
      · rw [getD_get e]; exact hM _ (List.getElem_mem e)
      · rw [show M = [] from List.length_eq_zero_iff.mp (by omega)]; exact h0
  | cons y R =>
    unfold srN
    refine ⟨fun x hx => ?_, fun x hx => hR x (List.mem_cons_of_mem _ hx)⟩
    rcases List.mem_or_eq_of_mem_set hx with q | q
    · exact hM x q
    · rw [q]; exact hR y List.mem_cons_self
theorem srt_ok : ∀ (n : Nat) {M R : List Nat} {a : Nat} {l : List Nat}, (0 < n → M ≠ []) → M.length + R.length = n → (srtR n M R a l).length ≤ l.length + n ∧ ∀ m, (∀ x ∈ l, x ≤ m) → ∀ x ∈ srtR n M R a l, x ≤ m + n
  | 0, M, R, a, l, _, _ => ⟨Nat.le_refl _, fun m h => h⟩
  | n + 1, M, R, a, l, h0, hn => by
    have hM := h0 (by omega)
    obtain ⟨q1, q2, q3, q4⟩ := srB_ok hM a l
    obtain ⟨s1, s2, -⟩ := srN_ok (b := (srB M a l).2) hM hn
    obtain ⟨t1, t2⟩ := srt_ok n (a := M.getD (srB M a l).2 0 + 1) (l := inc (srB M a l).1) s2 s1
    rw [inc_len] at t1
    refine ⟨by show (srtR n _ _ _ _).length ≤ _; omega, fun m hm x hx => ?_⟩
    have := t2 (m + 1) (inc_le (fun y hy => by
      rcases q4 y hy with z | z
      · exact hm y z
      · omega)) x hx
    omega
theorem srtL_ok (d : Int32) (L : LL) {room : Nat} (h1 : 1 ≤ room) : (srtL d L room).length ≤ 30 ∧ ∀ x ∈ srtL d L room, x ≤ 30 := by
  have hq := qsL_len d L
  obtain ⟨t1, t2⟩ := srt_ok (qsL d L).length (M := (qsL d L).take room) (R := (qsL d L).drop room) (a := 0) (l := []) (fun h q => by
    have := congrArg List.length q
    rw [List.length_take, List.length_nil] at this
    omega) (by rw [List.length_take, List.length_drop]; omega)
  refine ⟨by rw [List.length_nil] at t1; unfold srtL; omega, fun x hx => ?_⟩
  have := t2 0 (fun y hy => absurd hy (by simp)) x hx
  omega
/-- in order -/
def so (l : List Nat) : List Nat := l.mergeSort (fun a b => decide (a ≤ b))
theorem so_perm (l : List Nat) : (so l).Perm l := List.mergeSort_perm l _
theorem so_sorted (l : List Nat) : (so l).Pairwise (· ≤ ·) := by
  have := List.pairwise_mergeSort (le := fun a b => decide (a ≤ b)) (fun a b c h1 h2 => by simp at h1 h2 ⊢; omega) (fun a b => by simp; omega) l
  exact this.imp (fun h => by simpa using h)
theorem so_eq {s l : List Nat} (hs : s.Pairwise (· ≤ ·)) (hp1 : s.Perm l) : s = so l := List.Perm.eq_of_pairwise (le := (· ≤ ·)) (fun a b _ _ h1 h2 => Nat.le_antisymm h1 h2) hs (so_sorted l) (hp1.trans (so_perm l).symm)
theorem so_congr {l m : List Nat} (h : l.Perm m) : so l = so m := so_eq (so_sorted l) ((so_perm l).trans h)
theorem so_len (l : List Nat) : (so l).length = l.length := (so_perm l).length_eq
/-- what merging moves: the two shortest are made one -/
def mcR : Nat → List Nat → Nat
  | 0, _ => 0
  | n + 1, l => match so l with
    | a :: b :: t => (a + b) + mcR n ((a + b) :: t)
    | _ => 0
theorem mcR_congr {l m : List Nat} (h : l.Perm m) : ∀ n, mcR n l = mcR n m
  | 0 => rfl
  | n + 1 => by unfold mcR; rw [so_congr h]
theorem mcR_2 {n : Nat} {l : List Nat} {a b : Nat} {t : List Nat} (h : so l = a :: b :: t) : mcR (n + 1) l = (a + b) + mcR n ((a + b) :: t) := by
  show (match so l with
    | a :: b :: t => (a + b) + mcR n ((a + b) :: t)
    | _ => 0) = _
  rw [h]
/-- how many comparisons -/
def cmpR : Nat → List Nat → List Nat → Nat
  | 0, _, _ => 0
  | n + 1, p :: ps, q :: qs => if q < p then cmpR n (p :: ps) qs + 1 else cmpR n ps (q :: qs) + 1
  | _ + 1, _, _ => 0
theorem cmpR_nil (n : Nat) (q : List Nat) : cmpR n [] q = 0 := by cases n <;> rfl
theorem cmpR_nil2 (n : Nat) (p : List Nat) : cmpR n p [] = 0 := by cases n <;> cases p <;> rfl
theorem cmpR_fuel : ∀ (n m : Nat) (p q : List Nat), p.length + q.length ≤ n → p.length + q.length ≤ m → cmpR n p q = cmpR m p q
  | _, _, [], q, _, _ => by rw [cmpR_nil, cmpR_nil]
  | _, _, p :: ps, [], _, _ => by rw [cmpR_nil2, cmpR_nil2]
  | 0, _, p :: ps, q :: qs, h, _ => by simp at h
  | _ + 1, 0, p :: ps, q :: qs, _, h => by simp at h
  | n + 1, m + 1, p :: ps, q :: qs, h1, h2 => by
    simp only [List.length_cons] at h1 h2
    unfold cmpR
    rw [cmpR_fuel n m (p :: ps) qs (by simp only [List.length_cons]; omega) (by simp only [List.length_cons]; omega), cmpR_fuel n m ps (q :: qs) (by simp only [List.length_cons]; omega) (by simp only [List.length_cons]; omega)]
def cmpL (p q : List Nat) : Nat := cmpR (p.length + q.length) p q
theorem cmpL_nil (q : List Nat) : cmpL [] q = 0 := cmpR_nil _ _
theorem cmpL_nil2 (p : List Nat) : cmpL p [] = 0 := cmpR_nil2 _ _
theorem cmpL_cons (p q : Nat) (ps qs : List Nat) : cmpL (p :: ps) (q :: qs) = if q < p then cmpL (p :: ps) qs + 1 else cmpL ps (q :: qs) + 1 := by
  unfold cmpL
  rw [show (p :: ps).length + (q :: qs).length = (ps.length + qs.length + 1) + 1 by simp only [List.length_cons]; omega]
  show (if q < p then cmpR (ps.length + qs.length + 1) (p :: ps) qs + 1 else cmpR (ps.length + qs.length + 1) ps (q :: qs) + 1) = _
  rw [cmpR_fuel _ ((p :: ps).length + qs.length) (p :: ps) qs (by simp only [List.length_cons]; omega) (by simp only [List.length_cons]; omega), cmpR_fuel _ (ps.length + (q :: qs).length) ps (q :: qs) (by simp only [List.length_cons]; omega) (by simp only [List.length_cons]; omega)]
theorem cmpL_le : ∀ (p q : List Nat), cmpL p q ≤ p.length + q.length
  | [], q => by rw [cmpL_nil]; omega
  | p :: ps, [] => by rw [cmpL_nil2]; omega
  | p :: ps, q :: qs => by
    rw [cmpL_cons]
    have h1 := cmpL_le (p :: ps) qs
    have h2 := cmpL_le ps (q :: qs)
    simp only [List.length_cons] at h1 h2 ⊢
    split <;> omega
/-- targets of firm POINTERS, values of ROWS -/
def ptL (A : AS) : List Nat := ((List.range (aN A)).filter (isFirmP (aS A) (aT A))).map (fun p => (aT A p).toNatClampNeg)
def rvL (A : AS) (d : Int32) : List Nat := ((List.range (aM A)).filter (bt d)).map (fun r => aV A r 0)
