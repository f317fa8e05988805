/-! STATE (the class): begun from a TABLE -/
/-- ROWS and pointers told -/
abbrev TT := List (Nat × Nat × Nat) × List (Nat × Nat)
def colT (t : Nat × Nat × Nat) (k : Nat) : Nat := if k = 0 then t.1 else if k = 1 then t.2.1 else t.2.2
def isTd (G : GG) (p : Nat) (T : TT) : Prop := (G.1 p 11 = nI T.1.length ∧ ∀ r (h : r < T.1.length), ∀ k, k < 3 → G.1 (p + 4) (r * 3 + k) = nI (colT T.1[r] k)) ∧ G.1 p 12 = nI T.2.length ∧ ∀ q (h : q < T.2.length), G.1 (p + 5) q = nI T.2[q].1 ∧ G.1 (p + 6) q = nI T.2[q].2
def okTd (P : PP) (T : TT) : Prop := (T.1.length ≤ 20 ∧ ∀ t ∈ T.1, t.1 ≤ 999 ∧ t.2.1 ≤ 999 ∧ t.2.2 ≤ 999) ∧ (T.2.length ≤ 8 ∧ ∀ q ∈ T.2, q.1 ≤ 2 ∧ q.2 ≤ 999 ∧ ∃ t ∈ T.1, t.1 = q.2) ∧ ∀ i, i < pNi P → pKd P i = 2 → T.1.Pairwise (fun t u => colT t (pCo P i) ≠ colT u (pCo P i))
def emptyA (x : Int32) : AS := ((fun _ _ => 0, 0, 0, 0), (0, fun _ => 0, fun _ => -1, fun _ => -1), fun _ => [], none, x)
def seatT (P : PP) (A : AS) (t : Nat × Nat × Nat) : AS := seatA P A t.1 t.2.1 t.2.2
def aimT (A : AS) (q : Nat × Nat) : AS := aimA A (nI q.1) (nI q.2)
def startB (P : PP) (T : TT) (x : Int32) : AS := T.2.foldl aimT (T.1.foldl (seatT P) (emptyA x))
def startA (P : PP) (T : TT) : AS := startB P T 0
theorem seatT_X (P : PP) (A : AS) (y : Int32) (t : Nat × Nat × Nat) : seatT P (setX A y) t = setX (seatT P A t) y := rfl
theorem aimT_X (A : AS) (y : Int32) (t : Nat × Nat) : aimT (setX A y) t = setX (aimT A t) y := rfl
theorem seats_X (P : PP) (y : Int32) : ∀ (l : List (Nat × Nat × Nat)) (A : AS), l.foldl (seatT P) (setX A y) = setX (l.foldl (seatT P) A) y
  | [], _ => rfl
  | t :: l, A => by rw [List.foldl_cons, List.foldl_cons, seatT_X, seats_X P y l]
theorem aims_X (y : Int32) : ∀ (l : List (Nat × Nat)) (A : AS), l.foldl aimT (setX A y) = setX (l.foldl aimT A) y
  | [], _ => rfl
  | t :: l, A => by rw [List.foldl_cons, List.foldl_cons, aimT_X, aims_X y l]
theorem start_X (P : PP) (T : TT) (x : Int32) : setX (startB P T x) 0 = startA P T := by
  unfold startA startB
  rw [show emptyA 0 = setX (emptyA x) 0 from rfl, seats_X, aims_X]
/-- as far as told -/
def toldN (P : PP) (l : List (Nat × Nat × Nat)) (n : Nat) (A : AS) : Prop := INV P A ∧ aJ A = none ∧ aM A = l.length ∧ aN A = n ∧ (∀ r, r < 32 → bt (visA A) r = decide (r < l.length)) ∧ ∀ r (h : r < l.length), ∀ k, k < 3 → aV A r k = colT l[r] k
section STF
variable {P : PP} {A : AS} {l : List (Nat × Nat × Nat)} {n : Nat}
theorem told_0 (hP : okPP P) (x : Int32) : toldN P [] 0 (emptyA x) := by
  have hL : okL (pPg P) [] := ⟨hP.1, by simp, by simp, by simp, by simp, by simp⟩
  refine ⟨⟨⟨hP, ⟨Nat.zero_le _, fun r k hr => absurd hr (Nat.not_lt_zero _), fun r hr => ?_, fun r hr => ?_⟩, ⟨Nat.zero_le _, fun p hp1 => absurd hp1 (Nat.not_lt_zero _)⟩, fun i _ => hL, trivial⟩, ⟨fun p hp1 => absurd hp1 (Nat.not_lt_zero _), fun i hi hk2 r q hr => ?_, fun i hi hk2 r q hr => ?_⟩, fun i hi ha c => ?_, fun _ => ⟨rfl, fun p hp1 => absurd hp1 (Nat.not_lt_zero _)⟩, fun J hJ => absurd hJ (by simp [emptyA, aJ])⟩, rfl, rfl, rfl, fun r hr => ?_, fun r h => absurd h (Nat.not_lt_zero _)⟩
  · have : bt (0 : Int32) r = true := hr
    rw [b_0] at this; exact absurd this (by decide)
  · have : bt (0 : Int32) r = true := hr
    rw [b_0] at this; exact absurd this (by decide)
  · have hr' : bt (visB 0 0) r = true := hr
    by_cases h32 : r < 32
    · rw [bt_vis _ _ h32, b_0] at hr'; exact absurd hr' (by decide)
    · rw [b_big (by omega)] at hr'; exact absurd hr' (by decide)
  · have : bt (0 : Int32) r = true := hr
    rw [b_0] at this; exact absurd this (by decide)
  · refine ⟨fun q => absurd q (by simp [emptyA, aL]), fun q => ?_⟩
    have h32 : c % 32 < 32 := Nat.mod_lt _ (by decide)
    rcases q with q | q
    · have : bt (visB 0 0) (c % 32) = true := q.2.2
      rw [bt_vis _ _ h32, b_0] at this; exact absurd this (by decide)
    · have : bt (0 : Int32) (c % 32) = true := q.1.2.2
      rw [b_0] at this; exact absurd this (by decide)
  · show bt (visB 0 0) r = _
    rw [bt_vis _ _ hr, b_0]
    simp
theorem told_s (h : toldN P l 0 A) {t : Nat × Nat × Nat} (hl : l.length < 20) (ht : t.1 ≤ 999 ∧ t.2.1 ≤ 999 ∧ t.2.2 ≤ 999) (ho : ∀ i, i < pNi P → pKd P i = 2 → ∀ u ∈ l, colT u (pCo P i) ≠ colT t (pCo P i)) : toldN P (l ++ [t]) 0 (seatT P A t) := by
  obtain ⟨h1, h2, h3, h4, h5, h6⟩ := h
  have hP := h1.pp
  have hn := hP.2.1
  have hcl : ∀ k, k < 3 → clashA P A k (colT t k) = 0 := fun k hk => by
    unfold clashA
    refine z_int.mpr (fun i hi => ?_)
    rw [bt_msk _ _ (by omega) i hi]
    by_cases hin : i < pNi P
    · cases hon : isOnce P i k
      · simp
      · have hon' : pKd P i = 2 ∧ pCo P i = k := by
          unfold isOnce at hon
          simpa using hon
        have : havS (aV A) (visA A) k (colT t k) = 0 := hav_0.mpr (fun r hr hv => by
          rw [h5 r (by omega)] at hv
          have hrl : r < l.length := of_decide_eq_true hv
          rw [h6 r hrl k hk]
          have := ho i hin hon'.1 l[r] (List.getElem_mem hrl)
          rw [hon'.2] at this
          exact this)
        rw [decide_eq_true this]
        simp
    · simp [hin]
  have hc3 : clash3 P A t.1 t.2.1 t.2.2 = 0 := by
    unfold clash3
    rw [show clashA P A 0 t.1 = 0 from hcl 0 (by decide), show clashA P A 1 t.2.1 = 0 from hcl 1 (by decide), show clashA P A 2 t.2.2 = 0 from hcl 2 (by decide)]
    rfl
  have hm : aM A < 30 := by omega
  have eV : ∀ r k, aV (seatT P A t) r k = if r = aM A then colT t k else aV A r k := fun r k => rfl
  refine ⟨seat_inv h1 h2 hm ht.1 ht.2.1 ht.2.2 hc3, h2, ?_, h4, fun r hr => ?_, fun r hr k hk => ?_⟩
  · show aM A + 1 = _
    rw [h3, List.length_append]; rfl
  · have hd : bt (visA A) r = decide (r < l.length) := h5 r hr
    unfold visA at hd ⊢
    rw [bt_vis _ _ hr] at hd
    show bt (visB (aD A ||| sbit (aM A)) (aC A)) r = _
    rw [bt_vis _ _ hr, b_or, bt_sbit (by omega) hr, List.length_append, h3]
    have hc0 : aC A = 0 := (h1.2.2.2.1 h2).1
    rw [hc0, b_0] at hd ⊢
    simp only [Bool.not_false, Bool.and_true] at hd ⊢
    rw [hd]
    simp only [List.length_cons, List.length_nil]
    by_cases g : r < l.length
    · simp [g]; omega
    · by_cases g2 : r = l.length
      · simp [g2]
      · simp [g, g2]; omega
  · rw [eV]
    rw [List.length_append] at hr
    simp only [List.length_cons, List.length_nil] at hr
    by_cases g : r = aM A
    · rw [if_pos g]
      have : (l ++ [t])[r] = t := by simp [g, h3]
      rw [this]
    · rw [if_neg g, List.getElem_append_left (by omega)]
      exact h6 r (by omega) k hk
theorem told_all : ∀ (m : List (Nat × Nat × Nat)) {l : List (Nat × Nat × Nat)} {A : AS}, toldN P l 0 A → l.length + m.length ≤ 20 → (∀ t ∈ m, t.1 ≤ 999 ∧ t.2.1 ≤ 999 ∧ t.2.2 ≤ 999) → (∀ i, i < pNi P → pKd P i = 2 → (l ++ m).Pairwise (fun t u => colT t (pCo P i) ≠ colT u (pCo P i))) → toldN P (l ++ m) 0 (m.foldl (seatT P) A)
  | [], l, A, h, _, _, _ => by rw [List.append_nil]; exact h
  | t :: m, l, A, h, hl, ht, ho => by
    simp only [List.length_cons] at hl
    have h1 := told_s h (t := t) (by omega) (ht t List.mem_cons_self) (fun i hi hk u hu => (List.pairwise_append.mp (ho i hi hk)).2.2 u hu t List.mem_cons_self)
    have := told_all m h1 (by rw [List.length_append]; simp only [List.length_cons, List.length_nil]; omega) (fun u hu => ht u (List.mem_cons_of_mem _ hu)) (fun i hi hk => by rw [List.append_assoc]; exact ho i hi hk)
    rw [List.append_assoc] at this
    exact this
theorem told_p (h : toldN P l n A) {q : Nat × Nat} (hn : n < 8) (hq : q.1 ≤ 2 ∧ q.2 ≤ 999 ∧ ∃ t ∈ l, t.1 = q.2) (hl : l.length ≤ 20) : toldN P l (n + 1) (aimT A q) ∧ canAim A (nI q.1) (nI q.2) = true := by
  obtain ⟨h1, h2, h3, h4, h5, h6⟩ := h
  have hcan : canAim A (nI q.1) (nI q.2) = true := by
    unfold canAim
    obtain ⟨t, ht, e⟩ := hq.2.2
    obtain ⟨r, hr, er⟩ := List.mem_iff_getElem.mp ht
    have hav : ¬ havS (aV A) (visA A) 0 q.2 = 0 := fun g => hav_0.mp g r (by omega) (by rw [h5 r (by omega)]; exact decide_eq_true hr) (by rw [h6 r hr 0 (by decide), er]; exact e)
    rw [nI_tn (by omega), (isVal_iff (nI q.2)).mpr ⟨_, hq.2.1, rfl⟩, decide_eq_false (n_nneg (by omega)), decide_eq_false (show ¬ (2 : Int32) < nI q.1 from lm (n := q.1) (a := 2) (by omega) (by omega)), decide_eq_false hav, decide_eq_true (show aN A < 12 by omega)]
    rfl
  exact ⟨⟨aim_inv h1 hcan, h2, h3, by show aN A + 1 = _; rw [h4], h5, h6⟩, hcan⟩
theorem told_ps (hl : l.length ≤ 20) : ∀ (m : List (Nat × Nat)) {n : Nat} {A : AS}, toldN P l n A → n + m.length ≤ 8 → (∀ q ∈ m, q.1 ≤ 2 ∧ q.2 ≤ 999 ∧ ∃ t ∈ l, t.1 = q.2) → toldN P l (n + m.length) (m.foldl aimT A)
  | [], n, A, h, _, _ => h
  | q :: m, n, A, h, hm, hq => by
    simp only [List.length_cons] at hm
    have := told_ps hl m (told_p h (by omega) (hq q List.mem_cons_self) hl).1 (by omega) (fun u hu => hq u (List.mem_cons_of_mem _ hu))
    rw [List.length_cons, show n + (m.length + 1) = n + 1 + m.length by omega]
    exact this
theorem start_inv (hP : okPP P) {T : TT} (hT : okTd P T) (x : Int32) : INV P (startB P T x) := by
  have h1 := told_all T.1 (told_0 hP x) (by simpa using hT.1.1) hT.1.2 hT.2.2
  rw [List.nil_append] at h1
  exact (told_ps hT.1.1 T.2 h1 (by have := hT.2.1.1; omega) hT.2.1.2).1
end STF
