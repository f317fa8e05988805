/-! THE LANGUAGE: signs, tokens -/
def lL (n : Nat) : Int64 := Int64.ofNat n
theorem lL_inj {a b : Nat} (ha : a < 9223372036854775808) (hb : b < 9223372036854775808) (h : lL a = lL b) : a = b := by
  have := congrArg Int64.toInt h
  unfold lL at this
  rw [Int64.toInt_ofNat_of_lt ha, Int64.toInt_ofNat_of_lt hb] at this
  exact Int.ofNat.inj this
theorem lL_mul (a b : Nat) : lL a * lL b = lL (a * b) := (Int64.ofNat_mul a b).symm
theorem lL_add (a b : Nat) : lL a + lL b = lL (a + b) := (Int64.ofNat_add a b).symm
theorem lL_nI {n : Nat} (h : n < 2147483648) : (nI n).toInt64 = lL n := by
  apply Int64.toInt_inj.mp
  rw [Int32.toInt_toInt64]
  unfold nI lL
  rw [Int32.toInt_ofNat_of_lt h, Int64.toInt_ofNat_of_lt (Nat.lt_trans h (by decide))]
theorem cmp_0 (x y : Int64) : (lg_cmp x y = 0) = (x = y) := by
  unfold lg_cmp
  by_cases h : x > y
  · have : ¬ x = y := fun e => by rw [e] at h; exact absurd (Int64.lt_iff_toInt_lt.mp h) (by omega)
    rw [if_pos h]
    simp [this]
  · rw [if_neg h]
    by_cases e : x = y
    · rw [if_pos e]; simp [e]
    · rw [if_neg e]; simp [e]
theorem cmp_lt {a b : Nat} (ha : a < 9223372036854775808) (hb : b < 9223372036854775808) : (lg_cmp (lL a) (lL b) < 0) = (a < b) := by
  have e : ∀ {a b : Nat}, a < 9223372036854775808 → b < 9223372036854775808 → (lL a < lL b ↔ a < b) := fun {a b} ha hb => by
    rw [Int64.lt_iff_toInt_lt]
    unfold lL
    rw [Int64.toInt_ofNat_of_lt ha, Int64.toInt_ofNat_of_lt hb]
    omega
  unfold lg_cmp
  by_cases h : lL a > lL b
  · have := (e hb ha).mp h
    rw [if_pos h]
    have h2 : ¬ a < b := by omega
    simp [h2]
  · have h1 : ¬ b < a := fun q => h ((e hb ha).mpr q)
    rw [if_neg h]
    by_cases q : lL a = lL b
    · have := lL_inj ha hb q
      rw [if_pos q]
      simp [this]
    · have : a ≠ b := fun w => q (by rw [w])
      rw [if_neg q]
      have h2 : a < b := by omega
      simp [h2]
theorem cmp_gt {a b : Nat} (ha : a < 9223372036854775808) (hb : b < 9223372036854775808) : ((0 : Int32) < lg_cmp (lL a) (lL b)) = (b < a) := by
  have e : ∀ {a b : Nat}, a < 9223372036854775808 → b < 9223372036854775808 → (lL a < lL b ↔ a < b) := fun {a b} ha hb => by
    rw [Int64.lt_iff_toInt_lt]
    unfold lL
    rw [Int64.toInt_ofNat_of_lt ha, Int64.toInt_ofNat_of_lt hb]
    omega
  unfold lg_cmp
  by_cases h : lL a > lL b
  · have := (e hb ha).mp h
    rw [if_pos h]
    simp [this]
  · have h1 : ¬ b < a := fun q => h ((e hb ha).mpr q)
    rw [if_neg h]
    split <;> simp [h1]
/-- what sort of token a sign is of -/
def clS (c : Nat) : Nat := if c = 10 ∨ c = 32 then 5 else if 97 ≤ c ∧ c ≤ 122 then 1 else if 48 ≤ c ∧ c ≤ 57 then 2 else if c = 59 then 3 else 4
def okc (c : Nat) : Prop := c = 10 ∨ (32 ≤ c ∧ c ≤ 126)
theorem okc_lt {c : Nat} (h : okc c) : c < 128 := by unfold okc at h; omega
theorem clS_le (c : Nat) : clS c ≤ 5 := by unfold clS; split <;> (try split) <;> (try split) <;> (try split) <;> omega
/-- where a row of signs of one sort ends -/
def enS (S : List Nat) (k e : Nat) : Nat := e + ((S.drop e).takeWhile (fun c => clS c == k)).length
theorem enS_y {S : List Nat} {k e : Nat} (h : e < S.length) (hc : clS (S.getD e 0) = k) : enS S k e = enS S k (e + 1) := by
  unfold enS
  rw [getD_get h] at hc
  rw [drop_cons h, List.takeWhile_cons, hc, if_pos (beq_self_eq_true k), List.length_cons]
  omega
theorem enS_n {S : List Nat} {k e : Nat} (h : e < S.length → clS (S.getD e 0) ≠ k) : enS S k e = e := by
  unfold enS
  by_cases he : e < S.length
  · have := h he
    rw [getD_get he] at this
    rw [drop_cons he, List.takeWhile_cons, show (clS S[e] == k) = false from beq_false_of_ne this]
    rfl
  · rw [List.drop_of_length_le (by omega)]
    rfl
theorem enS_ge (S : List Nat) (k e : Nat) : e ≤ enS S k e := Nat.le_add_right _ _
theorem enS_le {S : List Nat} {k e : Nat} (h : e ≤ S.length) : enS S k e ≤ S.length := by
  have := (List.takeWhile_sublist (fun c => clS c == k) (l := S.drop e)).length_le
  unfold enS
  rw [List.length_drop] at this
  omega
theorem enS_at {S : List Nat} {k : Nat} : ∀ {e i : Nat}, e ≤ i → i < enS S k e → clS (S.getD i 0) = k := by
  have key : ∀ (n e i : Nat), i - e = n → e ≤ i → i < enS S k e → clS (S.getD i 0) = k := by
    intro n
    induction n with
    | zero =>
      intro e i hn h1 h2
      have he : i = e := by omega
      subst he
      exact Classical.byContradiction fun q => by rw [enS_n (fun _ => q)] at h2; omega
    | succ n ih =>
      intro e i hn h1 h2
      by_cases hl : e < S.length
      · by_cases hc : clS (S.getD e 0) = k
        · rw [enS_y hl hc] at h2
          exact ih (e + 1) i (by omega) (by omega) h2
        · rw [enS_n (fun _ => hc)] at h2; omega
      · rw [enS_n (fun q => absurd q hl)] at h2; omega
  intro e i h1 h2
  exact key _ e i rfl h1 h2
theorem enS_out {S : List Nat} {k e : Nat} (he : e ≤ S.length) (h : enS S k e < S.length) : clS (S.getD (enS S k e) 0) ≠ k := by
  intro q
  have key : ∀ (n e : Nat), S.length - e = n → e ≤ S.length → enS S k e < S.length → clS (S.getD (enS S k e) 0) ≠ k := by
    intro n
    induction n with
    | zero => intro e hn he h; have := enS_ge S k e; omega
    | succ n ih =>
      intro e hn he h
      by_cases hc : clS (S.getD e 0) = k
      · rw [enS_y (by omega) hc] at h ⊢
        exact ih (e + 1) (by omega) (by omega) h
      · rw [enS_n (fun _ => hc)]; exact hc
  exact key _ e rfl he h q
/-- a token: its sort, its place, its signs -/
abbrev TK := Nat × Nat × List Nat
def tso (t : TK) : Nat := t.1
def tpl (t : TK) : Nat := t.2.1
def tsg (t : TK) : List Nat := t.2.2
def endT (S : List Nat) (q : Nat) : Nat := if clS (S.getD q 0) = 1 ∨ clS (S.getD q 0) = 2 then enS S (clS (S.getD q 0)) (q + 1) else q + 1
def sortT (S : List Nat) (q : Nat) : Nat := if clS (S.getD q 0) = 1 then (if endT S q - q ≤ 8 then 1 else 4) else if clS (S.getD q 0) = 2 then (if endT S q - q ≤ 4 then 2 else 4) else clS (S.getD q 0)
def tkS (S : List Nat) (b : Nat) : TK × Nat := if enS S 5 b < S.length then ((sortT S (enS S 5 b), enS S 5 b, (S.drop (enS S 5 b)).take (endT S (enS S 5 b) - enS S 5 b)), endT S (enS S 5 b)) else ((0, enS S 5 b, []), enS S 5 b)
def bS (S : List Nat) : Nat → Nat
  | 0 => 0
  | j + 1 => (tkS S (bS S j)).2
def tk (S : List Nat) (j : Nat) : TK := (tkS S (bS S j)).1
theorem endT_ok {S : List Nat} {q : Nat} (h : q < S.length) : q < endT S q ∧ endT S q ≤ S.length := by
  unfold endT
  split
  · have := enS_ge S (clS (S.getD q 0)) (q + 1)
    have := enS_le (S := S) (k := clS (S.getD q 0)) (e := q + 1) (by omega)
    omega
  · omega
theorem tkS_le {S : List Nat} {b : Nat} (h : b ≤ S.length) : (tkS S b).2 ≤ S.length ∧ b ≤ (tkS S b).2 := by
  have h1 := enS_le (S := S) (k := 5) h
  have h2 := enS_ge S 5 b
  unfold tkS
  split
  · rename_i h3
    have := endT_ok h3
    dsimp only
    omega
  · dsimp only; omega
theorem bS_le (S : List Nat) : ∀ j, bS S j ≤ S.length
  | 0 => Nat.zero_le _
  | j + 1 => (tkS_le (bS_le S j)).1
/-- the signs as a number in some base, as a NUMBER -/
def pkL (b : Nat) (w : List Nat) : Nat := w.foldl (fun a c => b * a + (c - 96)) 0
def num (w : List Nat) : Nat := w.foldl (fun a c => 10 * a + (c - 48)) 0
theorem pkL_s (b : Nat) (w : List Nat) (c : Nat) : pkL b (w ++ [c]) = b * pkL b w + (c - 96) := by unfold pkL; rw [List.foldl_append]; rfl
theorem num_s (w : List Nat) (c : Nat) : num (w ++ [c]) = 10 * num w + (c - 48) := by unfold num; rw [List.foldl_append]; rfl
theorem pkL_inj {b : Nat} (hb : 27 ≤ b) : ∀ (n : Nat) (v w : List Nat), v.length = n → (∀ c ∈ v, 97 ≤ c ∧ c ≤ 122) → (∀ c ∈ w, 97 ≤ c ∧ c ≤ 122) → pkL b v = pkL b w → v = w := by
  intro n
  have z : ∀ {w : List Nat}, (∀ c ∈ w, 97 ≤ c ∧ c ≤ 122) → w ≠ [] → 1 ≤ pkL b w := fun {w} hw h => by
    obtain ⟨w', c, rfl⟩ : ∃ w' c, w = w' ++ [c] := ⟨w.dropLast, w.getLast h, (List.dropLast_concat_getLast h).symm⟩
    have := hw c (by simp)
    rw [pkL_s]; omega
  induction n with
  | zero =>
    intro v w hn hv hw h
    have hv0 : v = [] := List.length_eq_zero_iff.mp hn
    subst hv0
    by_cases hw0 : w = []
    · exact hw0.symm
    · have := z hw hw0
      rw [← h] at this
      exact absurd this (by show ¬ 1 ≤ 0; omega)
  | succ n ih =>
    intro v w hn hv hw h
    have hv0 : v ≠ [] := fun e => by rw [e] at hn; simp at hn
    by_cases hw0 : w = []
    · have := z hv hv0
      rw [h, hw0] at this
      exact absurd this (by show ¬ 1 ≤ 0; omega)
    obtain ⟨v', c, rfl⟩ : ∃ w' c, v = w' ++ [c] := ⟨v.dropLast, v.getLast hv0, (List.dropLast_concat_getLast hv0).symm⟩
    obtain ⟨w', d, rfl⟩ : ∃ w' c, w = w' ++ [c] := ⟨w.dropLast, w.getLast hw0, (List.dropLast_concat_getLast hw0).symm⟩
    have hc := hv c (by simp)
    have hd := hw d (by simp)
    rw [pkL_s, pkL_s] at h
    have h1 : (b * pkL b v' + (c - 96)) % b = c - 96 := by rw [Nat.mul_add_mod, Nat.mod_eq_of_lt (by omega)]
    have h2 : (b * pkL b w' + (d - 96)) % b = d - 96 := by rw [Nat.mul_add_mod, Nat.mod_eq_of_lt (by omega)]
    have hcd : c = d := by rw [h, h2] at h1; omega
    subst hcd
    have h3 : b * pkL b v' = b * pkL b w' := by omega
    have h4 : pkL b v' = pkL b w' := Nat.eq_of_mul_eq_mul_left (by omega) h3
    rw [ih v' w' (by simpa using hn) (fun x hx => hv x (by simp [hx])) (fun x hx => hw x (by simp [hx])) h4]
theorem pkL_lt {b : Nat} (hb : 27 ≤ b) : ∀ (w : List Nat), (∀ c ∈ w, 97 ≤ c ∧ c ≤ 122) → pkL b w < b ^ w.length := by
  intro w
  suffices H : ∀ n (w : List Nat), w.length = n → (∀ c ∈ w, 97 ≤ c ∧ c ≤ 122) → pkL b w < b ^ w.length from H w.length w rfl
  intro n
  induction n with
  | zero =>
    intro w hn _
    rw [List.length_eq_zero_iff.mp hn]
    exact Nat.one_pos
  | succ n ih =>
    intro w hn hw
    have hw0 : w ≠ [] := fun e => by rw [e] at hn; simp at hn
    obtain ⟨w', d, rfl⟩ : ∃ w' c, w = w' ++ [c] := ⟨w.dropLast, w.getLast hw0, (List.dropLast_concat_getLast hw0).symm⟩
    have hd := hw d (by simp)
    have := ih w' (by simpa using hn) (fun x hx => hw x (by simp [hx]))
    rw [pkL_s, List.length_append, show w'.length + [d].length = w'.length + 1 from rfl, Nat.pow_succ]
    have h2 : b * pkL b w' + b ≤ b * b ^ w'.length := by
      have := Nat.mul_le_mul_left b this
      rw [Nat.mul_succ] at this
      exact this
    rw [Nat.mul_comm (b ^ w'.length)]
    omega
/-- the WORDS of the language -/
def resC : List (List Nat) := ["page", "batch", "index", "on", "row", "point", "at", "choose", "part", "insert", "remove", "change", "begin", "step", "stop", "crash", "resume", "pack", "plain", "down", "once", "partial", "firm", "loose", "bound", "a", "b", "c", "from", "to", "is", "over", "every", "twin", "pointed", "not", "and", "or"].map (fun s => s.toList.map Char.toNat)
def wx (w : List Nat) : Option Nat := (List.range 38).find? (fun i => resC.getD i [] == w)
def wxI (w : List Nat) : Int32 := match wx w with
  | some i => nI i
  | none => -1
def valI (t : TK) : Int32 := if tso t = 1 then wxI (tsg t) else if tso t = 2 then nI (num (tsg t)) else -1
theorem resC_ok : ∀ i, i < 38 → (resC.getD i []).length ≤ 8 ∧ (∀ c ∈ resC.getD i [], 97 ≤ c ∧ c ≤ 122) ∧ ∀ j, j < 38 → resC.getD j [] = resC.getD i [] → j = i := by decide +kernel
theorem wx_some {w : List Nat} {i : Nat} (h : wx w = some i) : i < 38 ∧ resC.getD i [] = w := by
  have h1 := List.mem_of_find?_eq_some h
  have h2 := List.find?_some h
  exact ⟨List.mem_range.mp h1, beq_iff_eq.mp h2⟩
theorem wx_of {w : List Nat} {i : Nat} (hi : i < 38) (h : resC.getD i [] = w) : wx w = some i := by
  cases hw : wx w with
  | none =>
    have := List.find?_eq_none.mp hw i (List.mem_range.mpr hi)
    rw [h] at this
    simp at this
  | some j =>
    obtain ⟨h1, h2⟩ := wx_some hw
    rw [(resC_ok i hi).2.2 j h1 (by rw [h, h2])]
theorem wx_none {w : List Nat} (h : wx w = none) {i : Nat} (hi : i < 38) : resC.getD i [] ≠ w := fun e => by rw [wx_of hi e] at h; cases h
theorem wxI_ok (w : List Nat) : wxI w = -1 ∨ ∃ i, i < 38 ∧ wxI w = nI i := by
  unfold wxI
  cases h : wx w with
  | none => exact Or.inl rfl
  | some i => exact Or.inr ⟨i, (wx_some h).1, rfl⟩
/-- what a WORD's signs are -/
theorem tk_word {S : List Nat} {j : Nat} (h : tso (tk S j) = 1) : (tsg (tk S j)).length ≤ 8 ∧ (∀ c ∈ tsg (tk S j), 97 ≤ c ∧ c ≤ 122) ∧ tsg (tk S j) ≠ [] := by
  have hb := bS_le S j
  unfold tk tkS at h ⊢
  split at h
  · rename_i hq
    rw [if_pos hq]
    generalize hqq : enS S 5 (bS S j) = q at *
    obtain ⟨e1, e2⟩ := endT_ok hq
    have hc : clS (S.getD q 0) = 1 ∧ endT S q - q ≤ 8 := by
      change sortT S q = 1 at h
      unfold sortT at h
      by_cases h1 : clS (S.getD q 0) = 1
      · rw [if_pos h1] at h
        by_cases h8 : endT S q - q ≤ 8
        · exact ⟨h1, h8⟩
        · rw [if_neg h8] at h; omega
      · rw [if_neg h1] at h
        split at h
        · split at h <;> omega
        · exact absurd h h1
    show ((S.drop q).take (endT S q - q)).length ≤ 8 ∧ (∀ c ∈ (S.drop q).take (endT S q - q), 97 ≤ c ∧ c ≤ 122) ∧ (S.drop q).take (endT S q - q) ≠ []
    refine ⟨by rw [List.length_take]; omega, fun c hcm => ?_, fun e => ?_⟩
    · obtain ⟨i, hi, ei⟩ := List.mem_iff_getElem.mp hcm
      rw [List.length_take, List.length_drop] at hi
      rw [List.getElem_take, List.getElem_drop] at ei
      have hcl : clS (S.getD (q + i) 0) = 1 := by
        by_cases hi0 : i = 0
        · rw [hi0]; exact hc.1
        · refine enS_at (e := q + 1) (by omega) ?_
          have : endT S q = enS S 1 (q + 1) := by unfold endT; rw [hc.1]; rfl
          omega
      rw [getD_get (by omega), ei] at hcl
      unfold clS at hcl
      split at hcl
      · omega
      · split at hcl
        · assumption
        · split at hcl
          · omega
          · split at hcl <;> omega
    · have := congrArg List.length e
      rw [List.length_take, List.length_drop, List.length_nil] at this
      omega
  · exact absurd h (by show ¬ (0 : Nat) = 1; decide)
theorem num_le : ∀ (w : List Nat), (∀ c ∈ w, c ≤ 57) → num w < 10 ^ w.length := by
  intro w
  suffices H : ∀ n (w : List Nat), w.length = n → (∀ c ∈ w, c ≤ 57) → num w < 10 ^ w.length from H w.length w rfl
  intro n
  induction n with
  | zero =>
    intro w hn _
    rw [List.length_eq_zero_iff.mp hn]
    exact Nat.one_pos
  | succ n ih =>
    intro w hn hw
    have hw0 : w ≠ [] := fun e => by rw [e] at hn; simp at hn
    obtain ⟨w', d, rfl⟩ : ∃ w' c, w = w' ++ [c] := ⟨w.dropLast, w.getLast hw0, (List.dropLast_concat_getLast hw0).symm⟩
    have hd := hw d (by simp)
    have := ih w' (by simpa using hn) (fun x hx => hw x (by simp [hx]))
    rw [num_s, List.length_append, show w'.length + [d].length = w'.length + 1 from rfl, Nat.pow_succ]
    omega
theorem tk_num {S : List Nat} {j : Nat} (h : tso (tk S j) = 2) : (tsg (tk S j)).length ≤ 4 ∧ (∀ c ∈ tsg (tk S j), 48 ≤ c ∧ c ≤ 57) ∧ num (tsg (tk S j)) < 10000 := by
  have hb := bS_le S j
  have main : (tsg (tk S j)).length ≤ 4 ∧ (∀ c ∈ tsg (tk S j), 48 ≤ c ∧ c ≤ 57) := by
    unfold tk tkS at h ⊢
    split at h
    · rename_i hq
      rw [if_pos hq]
      generalize hqq : enS S 5 (bS S j) = q at *
      obtain ⟨e1, e2⟩ := endT_ok hq
      have hc : clS (S.getD q 0) = 2 ∧ endT S q - q ≤ 4 := by
        change sortT S q = 2 at h
        unfold sortT at h
        by_cases h1 : clS (S.getD q 0) = 1
        · rw [if_pos h1] at h
          split at h <;> omega
        · rw [if_neg h1] at h
          by_cases h2 : clS (S.getD q 0) = 2
          · rw [if_pos h2] at h
            by_cases h4 : endT S q - q ≤ 4
            · exact ⟨h2, h4⟩
            · rw [if_neg h4] at h; omega
          · rw [if_neg h2] at h; exact absurd h h2
      show ((S.drop q).take (endT S q - q)).length ≤ 4 ∧ (∀ c ∈ (S.drop q).take (endT S q - q), 48 ≤ c ∧ c ≤ 57)
      refine ⟨by rw [List.length_take]; omega, fun c hcm => ?_⟩
      obtain ⟨i, hi, ei⟩ := List.mem_iff_getElem.mp hcm
      rw [List.length_take, List.length_drop] at hi
      rw [List.getElem_take, List.getElem_drop] at ei
      have hcl : clS (S.getD (q + i) 0) = 2 := by
        by_cases hi0 : i = 0
        · rw [hi0]; exact hc.1
        · refine enS_at (e := q + 1) (by omega) ?_
          have : endT S q = enS S 2 (q + 1) := by unfold endT; rw [hc.1]; rfl
          omega
      rw [getD_get (by omega), ei] at hcl
      unfold clS at hcl
      split at hcl
      · omega
      · split at hcl
        · omega
        · split at hcl
          · assumption
          · split at hcl <;> omega
    · exact absurd h (by show ¬ (0 : Nat) = 2; decide)
  refine ⟨main.1, main.2, ?_⟩
  have h1 := num_le _ (fun c hc => (main.2 c hc).2)
  have h2 : 10 ^ (tsg (tk S j)).length ≤ 10 ^ 4 := Nat.pow_le_pow_right (by decide) main.1
  omega
