/-! POINTERS (the class) -/
def isPt (G : GG) (q np : Nat) (S : Nat → Nat) (T B : Nat → Int32) : Prop := G.1 q 3 = nI np ∧ ∀ p, p < np → G.1 (q + 1) p = nI (S p) ∧ G.1 (q + 2) p = T p ∧ G.1 (q + 3) p = B p
def okP (np : Nat) (S : Nat → Nat) (T : Nat → Int32) : Prop := np ≤ 12 ∧ ∀ p, p < np → S p ≤ 2 ∧ (T p = -1 ∨ T p = -2 ∨ ∃ v, v ≤ 999 ∧ T p = nI v)
def anyAt (np : Nat) (T : Nat → Int32) (x : Int32) : Bool := (List.range np).any (fun p => decide (T p = x))
def firmAt (np : Nat) (S : Nat → Nat) (T : Nat → Int32) (x : Int32) : Bool := (List.range np).any (fun p => decide (T p = x) && S p == 0)
def isFirmP (S : Nat → Nat) (T : Nat → Int32) (p : Nat) : Bool := S p == 0 && !decide (T p < 0)
def firmOnes (np : Nat) (S : Nat → Nat) (T : Nat → Int32) : Nat := ((List.range np).filter (isFirmP S T)).length
def ls (s : Nat) (t : Int32) : Int32 := if t < 0 then t else if s = 1 then -1 else if s = 2 then -2 else t
def loosenAt (np : Nat) (S : Nat → Nat) (T : Nat → Int32) (x : Int32) : Nat → Int32 := fun p => if p < np ∧ T p = x then ls (S p) (T p) else T p
def setP (T : Nat → Int32) (p : Nat) (x : Int32) : Nat → Int32 := fun q => if q = p then x else T q
/-- a loop over those below n that stops at the first of which p is so -/
theorem any_loop {ρ : Type} {n : Nat} {p : Nat → Bool} {R : Nat → Nat → Option ρ} {yes no : Option ρ} (h1 : ∀ f i, i < n → R (f + 1) i = if p i = true then yes else R f (i + 1)) (h2 : ∀ f, R (f + 1) n = no) {f : Nat} (hf : n < f) : R f 0 = if (List.range n).any p = true then yes else no := by
  have key : ∀ (j i f : Nat), i + j = n → j < f → R f i = if ((List.range n).drop i).any p = true then yes else no := by
    intro j
    induction j with
    | zero =>
      intro i f hj hf
      obtain ⟨f, rfl⟩ : ∃ g, f = g + 1 := ⟨f - 1, by omega⟩
      have : i = n := by omega
      subst this
      rw [h2, List.drop_of_length_le (by simp)]
      simp
    | succ j ih =>
      intro i f hj hf
      obtain ⟨f, rfl⟩ : ∃ g, f = g + 1 := ⟨f - 1, by omega⟩
      rw [h1 f i (by omega), drop_cons (l := List.range n) (i := i) (by simp; omega), List.any_cons, List.getElem_range]
      by_cases hp : p i = true
      · simp [hp]
      · rw [if_neg hp, ih (i + 1) f (by omega) (by omega)]
        simp only [Bool.not_eq_true] at hp
        rw [hp, Bool.false_or]
  have := key n 0 f (by omega) hf
  simpa using this
/-- a loop over those below n that changes what is kept -/
theorem fold_loop {σ ρ : Type} {n : Nat} {g : σ → Nat → σ} {R : Nat → Nat → σ → Option ρ} {fin : σ → Option ρ} (I : Nat → σ → Prop) (h1 : ∀ f i a, i < n → I i a → R (f + 1) i a = R f (i + 1) (g a i) ∧ I (i + 1) (g a i)) (h2 : ∀ f a, I n a → R (f + 1) n a = fin a) {a : σ} (h0 : I 0 a) {f : Nat} (hf : n < f) : R f 0 a = fin ((List.range n).foldl g a) ∧ I n ((List.range n).foldl g a) := by
  have := for_inv (List.range n) R g I fin (fun f i a hi ha => by
    have := h1 f i a (by simpa using hi) ha
    simpa using this) (fun f a ha => by
    have := h2 f a (by simpa using ha)
    simpa using this) h0 (f := f) (by simpa using hf)
  simpa using this
/-- those below i from one, the others from another -/
def lowF (A B : Nat → Int32) (i : Nat) : Nat → Int32 := fun p => if p < i then A p else B p
theorem lowF_lt {A B : Nat → Int32} {i p : Nat} (h : p < i) : lowF A B i p = A p := if_pos h
theorem lowF_ge {A B : Nat → Int32} {i p : Nat} (h : i ≤ p) : lowF A B i p = B p := if_neg (by omega)
theorem lowF_set (A B : Nat → Int32) (i : Nat) : setP (lowF A B i) i (A i) = lowF A B (i + 1) := by
  funext r
  unfold setP
  by_cases e : r = i
  · rw [if_pos e, e, lowF_lt (by omega)]
  · rw [if_neg e]
    by_cases e2 : r < i
    · rw [lowF_lt e2, lowF_lt (by omega)]
    · rw [lowF_ge (by omega), lowF_ge (by omega)]
theorem lowF_same {A B : Nat → Int32} {i : Nat} (h : A i = B i) : lowF A B (i + 1) = lowF A B i := by
  funext r
  by_cases e : r = i
  · subst e; rw [lowF_lt (by omega), lowF_ge (Nat.le_refl _), h]
  · by_cases e2 : r < i
    · rw [lowF_lt e2, lowF_lt (by omega)]
    · rw [lowF_ge (by omega), lowF_ge (by omega)]
section PTS
variable {G : GG} {q np : Nat} {S : Nat → Nat} {T B : Nat → Int32}
theorem isPt.off {G' : GG} {W : Nat → Prop} (hi : isPt G q np S T B) (hq : eqOff W G G') (h0 : ∀ i, i < 4 → ¬ W (q + i)) : isPt G' q np S T B := by
  have e0 := (hq q (h0 0 (by decide))).1
  have e1 := (hq (q + 1) (h0 1 (by decide))).1
  have e2 := (hq (q + 2) (h0 2 (by decide))).1
  have e3 := (hq (q + 3) (h0 3 (by decide))).1
  exact ⟨by rw [e0]; exact hi.1, fun p hq2 => by rw [e1, e2, e3]; exact hi.2 p hq2⟩
theorem s_Pt_hasCome_neg (ho : okPt q) {x : Int32} (hx : x < 0) : f_Pt_hasCome [.ref q, .int x] (hp G) = some (some (.int (b2 false)), hp G) := by
  rw [e_Pt_hasCome q _ _ (ob_Pt G ho), if_pos hx]
  rfl
theorem s_Pt_hasCome (ho : okPt q) (hi : G.1 q 3 = nI np) (hk : np ≤ 12) {r : Nat} (hr : r < 2147483648) : f_Pt_hasCome [.ref q, .int (nI r)] (hp G) = some (some (.int (b2 (decide (r < np)))), hp G) := by
  rw [e_Pt_hasCome q _ _ (ob_Pt G ho), if_neg (n_nneg hr), gg_Pt_come _ ho, Option.bind_some, hi]
  by_cases h : r < np
  · rw [if_pos (lp h (by omega)), if_pos (show nI r < (12 : Int32) from lp (n := 12) (by omega) (by omega))]
    simp [h, b2]
  · rw [if_neg (lm (by omega) hr)]
    simp [h, b2]
theorem s_Pt_add (ho : okPt q) (hi : isPt G q np S T B) (hn : np < 12) {s v : Nat} : ∃ G', f_Pt_add [.ref q, .int (nI s), .int (nI v)] (hp G) = some (some (.int (nI np)), hp G') ∧ isPt G' q (np + 1) (fun p => if p = np then s else S p) (setP T np (nI v)) (setP B np (-1)) ∧ eqOff (inR q (q + 4)) G G' := by
  rw [e_Pt_add q _ _ _ (ob_Pt G ho), gg_Pt_come _ ho, Option.bind_some, hi.1, if_pos (show nI np < (12 : Int32) from lp (n := 12) hn (by omega)), Option.bind_some, show nI np + 1 = nI (np + 1) from nI_add np 1]
  simp (disch := omega) only [ww_Pt_come _ ho, gg_Pt_sort _ ho, gg_Pt_target _ ho, gg_Pt_before _ ho, uu_Pt_sort _ ho, uu_Pt_target _ ho, uu_Pt_before _ ho, Option.bind_some]
  have n1 : q ≠ q + 1 := by omega
  have n2 : q ≠ q + 2 := by omega
  have n3 : q ≠ q + 3 := by omega
  have n4 : q + 1 ≠ q := by omega
  have n5 : q + 1 ≠ q + 2 := by omega
  have n6 : q + 1 ≠ q + 3 := by omega
  have n7 : q + 2 ≠ q := by omega
  have n8 : q + 2 ≠ q + 1 := by omega
  have n9 : q + 2 ≠ q + 3 := by omega
  have n10 : q + 3 ≠ q := by omega
  have n11 : q + 3 ≠ q + 1 := by omega
  have n12 : q + 3 ≠ q + 2 := by omega
  refine ⟨_, rfl, ⟨?_, fun p hp => ⟨?_, ?_, ?_⟩⟩, ?_⟩
  · simp only [gsi_i, if_neg n1, if_neg n2, if_neg n3, if_true, upd_at]
  · simp only [gsi_i, if_neg n4, if_neg n5, if_neg n6, if_true, upd_if]
    by_cases h : p = np
    · rw [if_pos h, if_pos h]
    · rw [if_neg h, if_neg h]; exact (hi.2 p (by omega)).1
  · simp only [gsi_i, if_neg n7, if_neg n8, if_neg n9, if_true, upd_if, setP]
    by_cases h : p = np
    · rw [if_pos h, if_pos h]
    · rw [if_neg h, if_neg h]; exact (hi.2 p (by omega)).2.1
  · simp only [gsi_i, if_neg n10, if_neg n11, if_neg n12, if_true, upd_if, setP]
    by_cases h : p = np
    · rw [if_pos h, if_pos h]
    · rw [if_neg h, if_neg h]; exact (hi.2 p (by omega)).2.2
  · exact (((eqOff.gsi _ _ ⟨by omega, by omega⟩).tr (eqOff.gsi _ _ ⟨by omega, by omega⟩)).tr (eqOff.gsi _ _ ⟨by omega, by omega⟩)).tr (eqOff.gsi _ _ ⟨by omega, by omega⟩)
theorem s_Pt_add_full (ho : okPt q) (hi : G.1 q 3 = nI 12) {x y : Int32} : f_Pt_add [.ref q, .int x, .int y] (hp G) = some (some (.int (-1)), hp G) := by
  rw [e_Pt_add q _ _ _ (ob_Pt G ho), gg_Pt_come _ ho, Option.bind_some, hi, if_neg (by decide)]
/-- a pointer's target is written -/
theorem isPt.tgt (hi : isPt G q np S T B) (p : Nat) (x : Int32) : isPt (gsi G (q + 2) p x) q np S (setP T p x) B := by
  have n1 : q ≠ q + 2 := by omega
  have n2 : q + 1 ≠ q + 2 := by omega
  have n3 : q + 3 ≠ q + 2 := by omega
  refine ⟨?_, fun p' hp => ⟨?_, ?_, ?_⟩⟩
  · rw [gsi_i, if_neg n1]; exact hi.1
  · rw [gsi_i, if_neg n2]; exact (hi.2 p' hp).1
  · rw [gsi_i, if_pos rfl, upd_if]
    unfold setP
    by_cases h : p' = p
    · rw [if_pos h, if_pos h]
    · rw [if_neg h, if_neg h]; exact (hi.2 p' hp).2.1
  · rw [gsi_i, if_neg n3]; exact (hi.2 p' hp).2.2
theorem isPt.bef (hi : isPt G q np S T B) (p : Nat) (x : Int32) : isPt (gsi G (q + 3) p x) q np S T (setP B p x) := by
  have n1 : q ≠ q + 3 := by omega
  have n2 : q + 1 ≠ q + 3 := by omega
  have n3 : q + 2 ≠ q + 3 := by omega
  refine ⟨?_, fun p' hp => ⟨?_, ?_, ?_⟩⟩
  · rw [gsi_i, if_neg n1]; exact hi.1
  · rw [gsi_i, if_neg n2]; exact (hi.2 p' hp).1
  · rw [gsi_i, if_neg n3]; exact (hi.2 p' hp).2.1
  · rw [gsi_i, if_pos rfl, upd_if]
    unfold setP
    by_cases h : p' = p
    · rw [if_pos h, if_pos h]
    · rw [if_neg h, if_neg h]; exact (hi.2 p' hp).2.2
theorem s_Pt_discard_neg (ho : okPt q) {x : Int32} (hx : x < 0) : f_Pt_discard [.ref q, .int x] (hp G) = some (some (.int 0), hp G) := by
  rw [e_Pt_discard q _ _ (ob_Pt G ho), s_Pt_hasCome_neg ho hx, ci_some, if_pos (by decide)]
theorem s_Pt_discard_no (ho : okPt q) (hi : isPt G q np S T B) (hk : np ≤ 12) {p : Nat} (hr : p < 2147483648) (h : np ≤ p ∨ T p = -2) : f_Pt_discard [.ref q, .int (nI p)] (hp G) = some (some (.int 0), hp G) := by
  rw [e_Pt_discard q _ _ (ob_Pt G ho), s_Pt_hasCome ho hi.1 hk hr, ci_some]
  by_cases hpn : p < np
  · rw [if_neg (by simp [b2, hpn]), gg_Pt_target _ ho, Option.bind_some, rr_Pt_target _ ho (by omega), Option.bind_some, (hi.2 p hpn).2.1]
    rw [if_pos (by rcases h with h | h; omega; exact h)]
  · rw [if_pos (by simp [b2, hpn])]
theorem s_Pt_discard (ho : okPt q) (hi : isPt G q np S T B) (hk : np ≤ 12) {p : Nat} (hpn : p < np) (h : T p ≠ -2) : ∃ G', f_Pt_discard [.ref q, .int (nI p)] (hp G) = some (some (.int 1), hp G') ∧ isPt G' q np S (setP T p (-2)) (setP B p (-1)) ∧ eqOff (inR q (q + 4)) G G' := by
  rw [e_Pt_discard q _ _ (ob_Pt G ho), s_Pt_hasCome ho hi.1 hk (by omega), ci_some, if_neg (by simp [b2, hpn]), gg_Pt_target _ ho, Option.bind_some, rr_Pt_target _ ho (by omega), Option.bind_some, (hi.2 p hpn).2.1, if_neg h, Option.bind_some, uu_Pt_target _ ho (by omega), Option.bind_some, gg_Pt_before _ ho, Option.bind_some, uu_Pt_before _ ho (by omega), Option.bind_some]
  exact ⟨_, rfl, (hi.tgt p _).bef p _, (eqOff.gsi _ _ ⟨by omega, by omega⟩).tr (eqOff.gsi _ _ ⟨by omega, by omega⟩)⟩
theorem s_Pt_anyAt (ho : okPt q) (hi : isPt G q np S T B) (hk : np ≤ 12) (x : Int32) : f_Pt_anyAt [.ref q, .int x] (hp G) = some (some (.int (b2 (anyAt np T x))), hp G) := by
  rw [e_Pt_anyAt q _ _ (ob_Pt G ho)]
  have := any_loop (n := np) (p := fun p => decide (T p = x)) (R := fun f i => mm_run p_Pt_anyAt f 2 [.ref q, .int x, .int (nI i)] [] (hp G)) (yes := some (some (.int 1), hp G)) (no := some (some (.int 0), hp G)) (fun f i hin => by
    simp only [e_Pt_anyAt_2, gg_Pt_come _ ho, hi.1, Option.bind_some]
    rw [if_pos (lp hin (by omega)), gg_Pt_target _ ho, Option.bind_some, rr_Pt_target _ ho (by omega), Option.bind_some, (hi.2 i hin).2.1, show nI i + 1 = nI (i + 1) from nI_add i 1]
    by_cases h : T i = x
    · rw [if_pos h, if_pos (by simpa using h)]
    · rw [if_neg h, if_neg (by simpa using h)]) (fun f => by
    simp only [e_Pt_anyAt_2, gg_Pt_come _ ho, hi.1, Option.bind_some]
    rw [if_neg (lm (Nat.le_refl _) (by omega))]) (fu_lt (by omega))
  refine Eq.trans this ?_
  unfold anyAt b2
  cases (List.range np).any (fun p => decide (T p = x)) <;> rfl
theorem s_Pt_firmAt (ho : okPt q) (hi : isPt G q np S T B) (hk : okP np S T) (x : Int32) : f_Pt_firmAt [.ref q, .int x] (hp G) = some (some (.int (b2 (firmAt np S T x))), hp G) := by
  have hn := hk.1
  rw [e_Pt_firmAt q _ _ (ob_Pt G ho)]
  have := any_loop (n := np) (p := fun p => decide (T p = x) && S p == 0) (R := fun f i => mm_run p_Pt_firmAt f 2 [.ref q, .int x, .int (nI i)] [] (hp G)) (yes := some (some (.int 1), hp G)) (no := some (some (.int 0), hp G)) (fun f i hin => by
    have hs := (hk.2 i hin).1
    simp only [e_Pt_firmAt_2, gg_Pt_come _ ho, hi.1, Option.bind_some]
    rw [if_pos (lp hin (by omega)), gg_Pt_target _ ho, Option.bind_some, rr_Pt_target _ ho (by omega), Option.bind_some, (hi.2 i hin).2.1, gg_Pt_sort _ ho, Option.bind_some, rr_Pt_sort _ ho (by omega), Option.bind_some, (hi.2 i hin).1, show nI i + 1 = nI (i + 1) from nI_add i 1]
    by_cases h : T i = x
    · rw [if_pos h]
      by_cases h2 : S i = 0
      · rw [if_pos (show nI (S i) = 0 by rw [h2]; rfl), if_pos (by simp [h, h2])]
      · rw [if_neg (show ¬ nI (S i) = (0 : Int32) from fun e => h2 (n_inj (b := 0) (by omega) (by omega) e)), if_neg (by simp [h2])]
    · rw [if_neg h, if_neg (by simp [h])]) (fun f => by
    simp only [e_Pt_firmAt_2, gg_Pt_come _ ho, hi.1, Option.bind_some]
    rw [if_neg (lm (Nat.le_refl _) (by omega))]) (fu_lt (by omega))
  refine Eq.trans this ?_
  unfold firmAt b2
  cases (List.range np).any (fun p => decide (T p = x) && S p == 0) <;> rfl
theorem s_Pt_isFirm (ho : okPt q) (hi : isPt G q np S T B) (hk : okP np S T) {p : Nat} (hpn : p < np) : f_Pt_isFirm [.ref q, .int (nI p)] (hp G) = some (some (.int (b2 (isFirmP S T p))), hp G) := by
  have hn := hk.1
  have hs := (hk.2 p hpn).1
  rw [e_Pt_isFirm q _ _ (ob_Pt G ho), s_Pt_hasCome ho hi.1 hn (by omega), ci_some, if_neg (by simp [b2, hpn]), gg_Pt_sort _ ho, Option.bind_some, rr_Pt_sort _ ho (by omega), Option.bind_some, (hi.2 p hpn).1]
  unfold isFirmP
  by_cases h2 : S p = 0
  · rw [if_pos (show nI (S p) = 0 by rw [h2]; rfl), gg_Pt_target _ ho, Option.bind_some, rr_Pt_target _ ho (by omega), Option.bind_some, (hi.2 p hpn).2.1]
    by_cases h3 : T p < 0
    · rw [if_pos h3]; simp [b2, h2, h3]
    · rw [if_neg h3]; simp [b2, h2, h3]
  · rw [if_neg (show ¬ nI (S p) = (0 : Int32) from fun e => h2 (n_inj (b := 0) (by omega) (by omega) e))]
    simp [b2, h2]
theorem s_Pt_firmOnes (ho : okPt q) (hi : isPt G q np S T B) (hk : okP np S T) : f_Pt_firmOnes [.ref q] (hp G) = some (some (.int (nI (firmOnes np S T))), hp G) := by
  have hn := hk.1
  rw [e_Pt_firmOnes q _ (ob_Pt G ho)]
  have := fold_loop (n := np) (g := fun a i => a + (if isFirmP S T i then 1 else 0)) (R := fun f i a => mm_run p_Pt_firmOnes f 4 [.ref q, .int (nI a), .int (nI i)] [] (hp G)) (fin := fun a => some (some (.int (nI a)), hp G)) (fun _ _ => True) (fun f i a hin _ => by
    refine ⟨?_, trivial⟩
    simp only [e_Pt_firmOnes_4, gg_Pt_come _ ho, hi.1, Option.bind_some]
    rw [if_pos (lp hin (by omega)), s_Pt_isFirm ho hi hk hin, ci_some, show nI i + 1 = nI (i + 1) from nI_add i 1, show nI a + 1 = nI (a + 1) from nI_add a 1, show nI a + 0 = nI (a + 0) from nI_add a 0]
    cases h : isFirmP S T i
    · rw [if_pos (by decide)]; rfl
    · rw [if_neg (by decide)]; rfl) (fun f a _ => by
    simp only [e_Pt_firmOnes_4, gg_Pt_come _ ho, hi.1, Option.bind_some]
    rw [if_neg (lm (Nat.le_refl _) (by omega))]) trivial (a := 0) (fu_lt (by omega))
  refine Eq.trans this.1 ?_
  rw [foldl_count (isFirmP S T)]
  simp [firmOnes]
theorem s_Pt_loosen (ho : okPt q) (hi : isPt G q np S T B) (hk : okP np S T) {p : Nat} (hpn : p < np) : ∃ G', f_Pt_loosen [.ref q, .int (nI p)] (hp G) = some (none, hp G') ∧ isPt G' q np S (setP T p (ls (S p) (T p))) B ∧ eqOff (inR q (q + 4)) G G' := by
  have hn := hk.1
  have hs := (hk.2 p hpn).1
  have hid : isPt G q np S (setP T p (T p)) B := by
    have : setP T p (T p) = T := by
      funext r
      unfold setP
      by_cases h : r = p
      · rw [if_pos h, h]
      · rw [if_neg h]
    rw [this]
    exact hi
  rw [e_Pt_loosen q _ _ (ob_Pt G ho), s_Pt_hasCome ho hi.1 hn (by omega), ci_some, if_neg (by simp [b2, hpn]), gg_Pt_target _ ho, Option.bind_some, rr_Pt_target _ ho (by omega), Option.bind_some, (hi.2 p hpn).2.1]
  unfold ls
  by_cases h3 : T p < 0
  · rw [if_pos h3, if_pos h3]
    exact ⟨G, rfl, hid, eqOff.rf⟩
  · rw [if_neg h3, if_neg h3, gg_Pt_sort _ ho, Option.bind_some, rr_Pt_sort _ ho (by omega), Option.bind_some, (hi.2 p hpn).1]
    by_cases h1 : S p = 1
    · rw [if_pos (show nI (S p) = 1 by rw [h1]; rfl), if_pos h1, Option.bind_some, uu_Pt_target _ ho (by omega), Option.bind_some]
      exact ⟨_, rfl, hi.tgt p _, eqOff.gsi _ _ ⟨by omega, by omega⟩⟩
    · rw [if_neg (show ¬ nI (S p) = (1 : Int32) from fun e => h1 (n_inj (b := 1) (by omega) (by omega) e)), if_neg h1, Option.bind_some, rr_Pt_sort _ ho (by omega), Option.bind_some, (hi.2 p hpn).1]
      by_cases h2 : S p = 2
      · rw [if_pos (show nI (S p) = 2 by rw [h2]; rfl), if_pos h2, Option.bind_some, uu_Pt_target _ ho (by omega), Option.bind_some]
        exact ⟨_, rfl, hi.tgt p _, eqOff.gsi _ _ ⟨by omega, by omega⟩⟩
      · rw [if_neg (show ¬ nI (S p) = (2 : Int32) from fun e => h2 (n_inj (b := 2) (by omega) (by omega) e)), if_neg h2]
        exact ⟨G, rfl, hid, eqOff.rf⟩
theorem s_Pt_loosenAt (ho : okPt q) (hi : isPt G q np S T B) (hk : okP np S T) (x : Int32) : ∃ G', f_Pt_loosenAt [.ref q, .int x] (hp G) = some (none, hp G') ∧ isPt G' q np S (loosenAt np S T x) B ∧ eqOff (inR q (q + 4)) G G' := by
  have hn := hk.1
  rw [e_Pt_loosenAt q _ _ (ob_Pt G ho)]
  have key : ∀ (j i f : Nat) (G1 : GG), i + j = np → j < f → isPt G1 q np S (loosenAt i S T x) B → eqOff (inR q (q + 4)) G G1 → ∃ G', mm_run p_Pt_loosenAt f 2 [.ref q, .int x, .int (nI i)] [] (hp G1) = some (none, hp G') ∧ isPt G' q np S (loosenAt np S T x) B ∧ eqOff (inR q (q + 4)) G G' := by
    intro j
    induction j with
    | zero =>
      intro i f G1 hj hf h1 h2
      obtain ⟨f, rfl⟩ : ∃ g, f = g + 1 := ⟨f - 1, by omega⟩
      have : i = np := by omega
      subst this
      rw [e_Pt_loosenAt_2, gg_Pt_come _ ho, Option.bind_some, h1.1, if_neg (lm (Nat.le_refl _) (by omega))]
      exact ⟨G1, rfl, h1, h2⟩
    | succ j ih =>
      intro i f G1 hj hf h1 h2
      obtain ⟨f, rfl⟩ : ∃ g, f = g + 1 := ⟨f - 1, by omega⟩
      have hin : i < np := by omega
      have eT : loosenAt i S T x i = T i := by unfold loosenAt; rw [if_neg (by omega)]
      rw [e_Pt_loosenAt_2, gg_Pt_come _ ho, Option.bind_some, h1.1, if_pos (lp hin (by omega)), gg_Pt_target _ ho, Option.bind_some, rr_Pt_target _ ho (by omega), Option.bind_some, (h1.2 i hin).2.1, eT, show nI i + 1 = nI (i + 1) from nI_add i 1]
      by_cases h : T i = x
      · rw [if_pos h]
        have hk1 : okP np S (loosenAt i S T x) := ⟨hn, fun p hpn => ⟨(hk.2 p hpn).1, by
          unfold loosenAt
          split
          · unfold ls
            split
            · exact (hk.2 p hpn).2
            · split
              · exact Or.inl rfl
              · split
                · exact Or.inr (Or.inl rfl)
                · exact (hk.2 p hpn).2
          · exact (hk.2 p hpn).2⟩⟩
        obtain ⟨G2, q1, q2, q3⟩ := s_Pt_loosen ho h1 hk1 hin
        rw [q1, cv_some]
        refine ih (i + 1) f G2 (by omega) (by omega) ?_ (h2.tr q3)
        have : setP (loosenAt i S T x) i (ls (S i) (loosenAt i S T x i)) = loosenAt (i + 1) S T x := by
          funext r
          unfold setP
          by_cases e : r = i
          · subst e
            rw [if_pos rfl, eT]
            unfold loosenAt
            rw [if_pos ⟨by omega, h⟩]
          · rw [if_neg e]
            unfold loosenAt
            by_cases e2 : r < i ∧ T r = x
            · rw [if_pos e2, if_pos ⟨by omega, e2.2⟩]
            · rw [if_neg e2, if_neg (fun e3 => e2 ⟨by omega, e3.2⟩)]
        rw [← this]
        exact q2
      · rw [if_neg h]
        refine ih (i + 1) f G1 (by omega) (by omega) ?_ h2
        have : loosenAt (i + 1) S T x = loosenAt i S T x := by
          funext r
          unfold loosenAt
          by_cases e2 : r < i ∧ T r = x
          · rw [if_pos e2, if_pos ⟨by omega, e2.2⟩]
          · rw [if_neg e2, if_neg (fun e3 => e2 ⟨by
              rcases Nat.lt_or_ge r i with q | q
              · exact q
              · have : r = i := by omega
                subst this
                exact absurd e3.2 h, e3.2⟩)]
        rw [this]
        exact h1
  have e0 : loosenAt 0 S T x = T := by
    funext r
    unfold loosenAt
    rw [if_neg (by omega)]
  exact key np 0 mm_fu G (by omega) (fu_lt (by omega)) (by rw [e0]; exact hi) eqOff.rf
theorem s_Pt_forgetBefore (ho : okPt q) (hi : isPt G q np S T B) (hn : np ≤ 12) : ∃ G', f_Pt_forgetBefore [.ref q] (hp G) = some (none, hp G') ∧ isPt G' q np S T (fun _ => -1) ∧ eqOff (inR q (q + 4)) G G' := by
  rw [e_Pt_forgetBefore q _ (ob_Pt G ho)]
  have key : ∀ (j i f : Nat) (G1 : GG), i + j = np → j < f → isPt G1 q np S T (lowF (fun _ => -1) B i) → eqOff (inR q (q + 4)) G G1 → ∃ G', mm_run p_Pt_forgetBefore f 2 [.ref q, .int (nI i)] [] (hp G1) = some (none, hp G') ∧ isPt G' q np S T (fun _ => -1) ∧ eqOff (inR q (q + 4)) G G' := by
    intro j
    induction j with
    | zero =>
      intro i f G1 hj hf h1 h2
      obtain ⟨f, rfl⟩ : ∃ g, f = g + 1 := ⟨f - 1, by omega⟩
      rw [e_Pt_forgetBefore_2, gg_Pt_come _ ho, Option.bind_some, h1.1, if_neg (lm (by omega) (by omega))]
      exact ⟨G1, rfl, ⟨h1.1, fun p hpn => ⟨(h1.2 p hpn).1, (h1.2 p hpn).2.1, by rw [(h1.2 p hpn).2.2, lowF_lt (by omega)]⟩⟩, h2⟩
    | succ j ih =>
      intro i f G1 hj hf h1 h2
      obtain ⟨f, rfl⟩ : ∃ g, f = g + 1 := ⟨f - 1, by omega⟩
      rw [e_Pt_forgetBefore_2, gg_Pt_come _ ho, Option.bind_some, h1.1, if_pos (lp (by omega) (by omega)), gg_Pt_before _ ho, Option.bind_some, uu_Pt_before _ ho (by omega), Option.bind_some, show nI i + 1 = nI (i + 1) from nI_add i 1]
      refine ih (i + 1) f _ (by omega) (by omega) ?_ (h2.tr (eqOff.gsi _ _ ⟨by omega, by omega⟩))
      have h3 := h1.bef i (-1)
      rw [show setP (lowF (fun _ => -1) B i) i (-1) = lowF (fun _ => -1) B (i + 1) from lowF_set _ _ _] at h3
      exact h3
  exact key np 0 mm_fu G (by omega) (fu_lt (by omega)) ⟨hi.1, fun p hpn => ⟨(hi.2 p hpn).1, (hi.2 p hpn).2.1, by rw [lowF_ge (by omega)]; exact (hi.2 p hpn).2.2⟩⟩ eqOff.rf
/-- what STOP brings back -/
def broughtBack (T B : Nat → Int32) : Nat → Int32 := fun p => if B p = -1 then T p else B p
theorem s_Pt_bringBack (ho : okPt q) (hi : isPt G q np S T B) (hn : np ≤ 12) : ∃ G', f_Pt_bringBack [.ref q] (hp G) = some (none, hp G') ∧ isPt G' q np S (broughtBack T B) (fun _ => -1) ∧ eqOff (inR q (q + 4)) G G' := by
  rw [e_Pt_bringBack q _ (ob_Pt G ho)]
  have key : ∀ (j i f : Nat) (G1 : GG), i + j = np → j < f → isPt G1 q np S (lowF (broughtBack T B) T i) B → eqOff (inR q (q + 4)) G G1 → ∃ G', mm_run p_Pt_bringBack f 2 [.ref q, .int (nI i)] [] (hp G1) = some (none, hp G') ∧ isPt G' q np S (broughtBack T B) (fun _ => -1) ∧ eqOff (inR q (q + 4)) G G' := by
    intro j
    induction j with
    | zero =>
      intro i f G1 hj hf h1 h2
      obtain ⟨f, rfl⟩ : ∃ g, f = g + 1 := ⟨f - 1, by omega⟩
      rw [e_Pt_bringBack_2, gg_Pt_come _ ho, Option.bind_some, h1.1, if_neg (lm (by omega) (by omega))]
      have h3 : isPt G1 q np S (broughtBack T B) B := ⟨h1.1, fun p hpn => ⟨(h1.2 p hpn).1, by rw [(h1.2 p hpn).2.1, lowF_lt (by omega)], (h1.2 p hpn).2.2⟩⟩
      obtain ⟨G2, q1, q2, q3⟩ := s_Pt_forgetBefore ho h3 hn
      rw [q1, cv_some]
      exact ⟨G2, rfl, q2, h2.tr q3⟩
    | succ j ih =>
      intro i f G1 hj hf h1 h2
      obtain ⟨f, rfl⟩ : ∃ g, f = g + 1 := ⟨f - 1, by omega⟩
      have hin : i < np := by omega
      rw [e_Pt_bringBack_2, gg_Pt_come _ ho, Option.bind_some, h1.1, if_pos (lp hin (by omega)), gg_Pt_before _ ho, Option.bind_some, rr_Pt_before _ ho (by omega), Option.bind_some, (h1.2 i hin).2.2, show nI i + 1 = nI (i + 1) from nI_add i 1]
      by_cases h : B i = -1
      · rw [if_pos h]
        have h3 : broughtBack T B i = T i := by unfold broughtBack; rw [if_pos h]
        exact ih (i + 1) f G1 (by omega) (by omega) (by rw [lowF_same h3]; exact h1) h2
      · rw [if_neg h, gg_Pt_target _ ho, Option.bind_some, Option.bind_some, rr_Pt_before _ ho (by omega), Option.bind_some, (h1.2 i hin).2.2, uu_Pt_target _ ho (by omega), Option.bind_some]
        refine ih (i + 1) f _ (by omega) (by omega) ?_ (h2.tr (eqOff.gsi _ _ ⟨by omega, by omega⟩))
        have h3 := h1.tgt i (B i)
        have h4 : broughtBack T B i = B i := by unfold broughtBack; rw [if_neg h]
        rw [← h4, lowF_set, h4] at h3
        exact h3
  exact key np 0 mm_fu G (by omega) (fu_lt (by omega)) ⟨hi.1, fun p hpn => ⟨(hi.2 p hpn).1, by rw [lowF_ge (by omega)]; exact (hi.2 p hpn).2.1, (hi.2 p hpn).2.2⟩⟩ eqOff.rf
theorem s_Pt_become {u : Nat} (ho : okPt q) (ho' : okPt u) (hne : u + 4 ≤ q ∨ q + 4 ≤ u) (hi : isPt G u np S T B) (hn : np ≤ 12) : ∃ G', f_Pt_become [.ref q, .ref u] (hp G) = some (none, hp G') ∧ isPt G' q np S T B ∧ eqOff (inR q (q + 4)) G G' := by
  have c1 := fun G1 : GG => hp_cp (G := G1) ho'.2.1 ho.2.1 (Nat.le_refl 12) (Nat.le_refl 12) (by decide)
  have c2 := fun G1 : GG => hp_cp (G := G1) ho'.2.2.1 ho.2.2.1 (Nat.le_refl 12) (Nat.le_refl 12) (by decide)
  have c3 := fun G1 : GG => hp_cp (G := G1) ho'.2.2.2 ho.2.2.2 (Nat.le_refl 12) (Nat.le_refl 12) (by decide)
  rw [e_Pt_become q _ _ (ob_Pt G ho), gg_Pt_sort _ ho, gg_Pt_sort _ ho', Option.bind_some, Option.bind_some, show mm_cp (hp G) (u + 1) 0 (q + 1) 0 12 = _ from c1 G, Option.bind_some, gg_Pt_target _ ho, gg_Pt_target _ ho', Option.bind_some, Option.bind_some]
  rw [show mm_cp (hp (gsa G (q + 1) (fun k => if k < 12 then G.1 (u + 1) k else G.1 (q + 1) k))) (u + 2) 0 (q + 2) 0 12 = _ from c2 _, Option.bind_some, gg_Pt_before _ ho, gg_Pt_before _ ho', Option.bind_some, Option.bind_some]
  generalize hG1 : gsa G (q + 1) (fun k => if k < 12 then G.1 (u + 1) k else G.1 (q + 1) k) = G1
  generalize hG2 : gsa G1 (q + 2) (fun k => if k < 12 then G1.1 (u + 2) k else G1.1 (q + 2) k) = G2
  rw [show mm_cp (hp G2) (u + 3) 0 (q + 3) 0 12 = _ from c3 _, Option.bind_some, gg_Pt_come _ ho', Option.bind_some, ww_Pt_come _ ho, Option.bind_some]
  have n1 : q + 1 ≠ q := by omega
  have n2 : q + 2 ≠ q := by omega
  have n3 : q + 3 ≠ q := by omega
  have n4 : q + 1 ≠ q + 3 := by omega
  have n5 : q + 2 ≠ q + 3 := by omega
  have n6 : u ≠ q + 3 := by omega
  have n7 : u ≠ q + 2 := by omega
  have n8 : u ≠ q + 1 := by omega
  have n9 : u + 3 ≠ q + 2 := by omega
  have n10 : u + 3 ≠ q + 1 := by omega
  have n11 : q + 1 ≠ q + 2 := by omega
  have n12 : u + 2 ≠ q + 1 := by omega
  refine ⟨_, rfl, ⟨?_, fun p hpn => ⟨?_, ?_, ?_⟩⟩, ?_⟩
  · subst hG2; subst hG1
    simp only [gsi_i, gsa_i, if_true, upd_at, if_neg n6, if_neg n7, if_neg n8]
    exact hi.1
  · subst hG2; subst hG1
    simp only [gsi_i, gsa_i, if_true, if_neg n1, if_neg n4, if_neg n11]
    rw [if_pos (by omega)]
    exact (hi.2 p hpn).1
  · subst hG2; subst hG1
    simp only [gsi_i, gsa_i, if_true, if_neg n2, if_neg n5, if_neg n12]
    rw [if_pos (by omega)]
    exact (hi.2 p hpn).2.1
  · subst hG2; subst hG1
    simp only [gsi_i, gsa_i, if_true, if_neg n3, if_neg n9, if_neg n10]
    rw [if_pos (by omega)]
    exact (hi.2 p hpn).2.2
  · subst hG2; subst hG1
    exact (((eqOff.gsa _ ⟨by omega, by omega⟩).tr (eqOff.gsa _ ⟨by omega, by omega⟩)).tr (eqOff.gsa _ ⟨by omega, by omega⟩)).tr (eqOff.gsi _ _ ⟨by omega, by omega⟩)
end PTS
