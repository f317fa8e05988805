/-! what holds of a STATE at every time: the side list, and what a move makes of the trees -/
/-- an ENTRY of a visible ROW; of a chosen one -/
def okV (P : PP) (A : AS) (i c : Nat) : Prop := c = codA P A i (c % 32) ∧ belA P A i (c % 32) = true ∧ bt (visA A) (c % 32) = true
def okC (P : PP) (A : AS) (i c : Nat) : Prop := c = codA P A i (c % 32) ∧ belA P A i (c % 32) = true ∧ bt (aC A) (c % 32) = true
def stp (P : PP) (i : Nat) (D : Nat → Prop) (x : Int32) : Nat → Prop := fun c => if x < 0 then D c ∧ c ≠ sdC P i x else D c ∨ c = sdC P i x
/-- the side list makes W of D -/
def rpl (P : PP) (i : Nat) : (Nat → Prop) → List Int32 → (Nat → Prop) → Prop
  | D, [], W => ∀ c, D c ↔ W c
  | D, x :: r, W => okSd x ∧ (x < 0 → D (sdC P i x)) ∧ (¬ x < 0 → ∀ c, D c → c % 32 ≠ sdN x / 1000) ∧ rpl P i (stp P i D x) r W
theorem stp_congr {P : PP} {i : Nat} {D E : Nat → Prop} (h : ∀ c, D c ↔ E c) (x : Int32) (c : Nat) : stp P i D x c ↔ stp P i E x c := by
  unfold stp
  split
  · rw [h c]
  · rw [h c]
theorem rpl_l {P : PP} {i : Nat} : ∀ {xs : List Int32} {D E W : Nat → Prop}, (∀ c, D c ↔ E c) → rpl P i D xs W → rpl P i E xs W
  | [], D, E, W, h, r => fun c => (h c).symm.trans (r c)
  | x :: xs, D, E, W, h, r => ⟨r.1, fun q => (h _).mp (r.2.1 q), fun q c hc => r.2.2.1 q c ((h c).mpr hc), rpl_l (stp_congr h x) r.2.2.2⟩
theorem rpl_r {P : PP} {i : Nat} : ∀ {xs : List Int32} {D W W' : Nat → Prop}, (∀ c, W c ↔ W' c) → rpl P i D xs W → rpl P i D xs W'
  | [], _, _, _, h, r => fun c => (r c).trans (h c)
  | _ :: _, _, _, _, h, r => ⟨r.1, r.2.1, r.2.2.1, rpl_r h r.2.2.2⟩
theorem rpl_snoc {P : PP} {i : Nat} {x : Int32} (hx : okSd x) : ∀ {xs : List Int32} {D W : Nat → Prop}, rpl P i D xs W → (x < 0 → W (sdC P i x)) → (¬ x < 0 → ∀ c, W c → c % 32 ≠ sdN x / 1000) → rpl P i D (xs ++ [x]) (stp P i W x)
  | [], D, W, r, h1, h2 => ⟨hx, fun q => (r _).mpr (h1 q), fun q c hc => h2 q c ((r c).mp hc), fun c => stp_congr r x c⟩
  | y :: xs, D, W, r, h1, h2 => ⟨r.1, r.2.1, r.2.2.1, rpl_snoc hx r.2.2.2 h1 h2⟩
theorem sdC_ok {P : PP} {i : Nat} {x : Int32} (hx : okSd x) : sdC P i x < 32000 ∧ sdC P i x % 32 = sdN x / 1000 ∧ sdN x / 1000 < 30 := by
  have h := hx.2
  have := codD_lt (dn := dnP P i) (v := sdN x % 1000) (r := sdN x / 1000) (by omega) (by omega)
  exact ⟨this.1, this.2, by omega⟩
theorem car_mem {P : PP} {i : Nat} {L : LL} (hk : okL (pPg P) L) {x : Int32} (hx : okSd x) (h2 : ¬ x < 0 → ∀ c, c ∈ L.flatten → c % 32 ≠ sdN x / 1000) : okL (pPg P) (carL P i L x) ∧ ∀ c, c ∈ (carL P i L x).flatten ↔ stp P i (fun c => c ∈ L.flatten) x c := by
  have hs := sdC_ok (P := P) (i := i) hx
  unfold carL stp
  by_cases h : x < 0
  · rw [if_pos h]
    refine ⟨tak_ok hk, fun c => ?_⟩
    rw [if_pos h, tak_flat, List.mem_filter]
    simp
  · rw [if_neg h]
    have hn : sdC P i x % 32 ∉ L.flatten.map (· % 32) := fun q => by
      obtain ⟨c, hc, e⟩ := List.mem_map.mp q
      exact h2 h c hc (by rw [← hs.2.1]; exact e)
    have hn2 : sdC P i x ∉ L.flatten := fun q => hn (List.mem_map.mpr ⟨_, q, rfl⟩)
    refine ⟨put_ok hk (rows_lt hk (by rw [hs.2.1]; exact hs.2.2) hn) hs.1 (by rw [hs.2.1]; exact hs.2.2) hn, fun c => ?_⟩
    rw [if_neg h, putL_mem hk hn2, or_comm]
theorem rpl_car {P : PP} {i : Nat} : ∀ {xs : List Int32} {L : LL} {W : Nat → Prop}, okL (pPg P) L → rpl P i (fun c => c ∈ L.flatten) xs W → repl P i L xs ∧ okL (pPg P) (xs.foldl (carL P i) L) ∧ ∀ c, c ∈ (xs.foldl (carL P i) L).flatten ↔ W c
  | [], L, W, hk, r => ⟨trivial, hk, r⟩
  | x :: xs, L, W, hk, r => by
    obtain ⟨k1, k2⟩ := car_mem (i := i) hk r.1 r.2.2.1
    have ih := rpl_car k1 (rpl_l (fun c => (k2 c).symm) r.2.2.2)
    refine ⟨⟨r.1, fun q hm => ?_, ih.1⟩, ih.2⟩
    obtain ⟨c, hc, e⟩ := List.mem_map.mp hm
    exact r.2.2.1 q c hc e
theorem carS_L {P : PP} {i : Nat} : ∀ (xs : List Int32) (a : LL × Int32), (xs.foldl (carS P i) a).1 = xs.foldl (carL P i) a.1
  | [], _ => rfl
  | _ :: xs, _ => carS_L xs _
/-! moves -/
def jSdA (J : JB) (l : List Int32) : JB := (jDn J, jAt J, jWy J, jSi J, jGo J, jRe J, jSd J ++ l, jSt J)
def tkN (r v : Nat) : Int32 := ((1000 * nI r) + nI v) - 40000
def ptN (r v : Nat) : Int32 := (1000 * nI r) + nI v
def sdT (E : Nat → Int32) (r i : Nat) : List Int32 := if E i = -1 then [] else [tkN r (E i).toNatClampNeg]
def sdU (F : Nat → Int32) (r i : Nat) : List Int32 := if F i = -1 then [] else [ptN r (F i).toNatClampNeg]
def sdE (E F : Nat → Int32) (r i : Nat) : List Int32 := if E i = F i then [] else sdT E r i ++ sdU F r i
def mvT (P : PP) (E : Nat → Int32) (r i : Nat) (L : LL) : LL := if E i = -1 then L else takL (codD (dnP P i) (E i).toNatClampNeg r) L
def mvU (P : PP) (F : Nat → Int32) (r i : Nat) (L : LL) : LL := if F i = -1 then L else putL (pPg P) (codD (dnP P i) (F i).toNatClampNeg r) L
def mvL (P : PP) (E F : Nat → Int32) (r i : Nat) (L : LL) : LL := if E i = F i then L else mvU P F r i (mvT P E r i L)
theorem jSdA_at (J : JB) (l : List Int32) : jAt (jSdA J l) = jAt J := rfl
theorem jSdA_nil (J : JB) : jSdA J [] = J := by unfold jSdA; rw [List.append_nil]; rfl
theorem jSdA_app (J : JB) (l m : List Int32) : jSdA (jSdA J l) m = jSdA J (l ++ m) := by
  unfold jSdA
  show (jDn J, jAt J, jWy J, jSi J, jGo J, jRe J, (jSd J ++ l) ++ m, jSt J) = _
  rw [List.append_assoc]
theorem lay_1 (A : AS) (x : Int32) : (layA A x).1 = A.1 ∧ (layA A x).2.1 = A.2.1 := by unfold layA; cases aJ A <;> exact ⟨rfl, rfl⟩
theorem lay_J (A : AS) (x : Int32) : aJ (layA A x) = (aJ A).map (fun J => jSdA J [x]) := by
  unfold layA
  cases h : aJ A
  · exact h
  · rfl
section MVP
variable {P : PP} {A : AS} {E F : Nat → Int32} {r i : Nat}
theorem tk_1 : (takeE P A i r (E i)).1 = A.1 ∧ (takeE P A i r (E i)).2.1 = A.2.1 := by
  unfold takeE takeA
  split
  · exact ⟨rfl, rfl⟩
  · split
    · exact lay_1 A _
    · exact ⟨rfl, rfl⟩
theorem pt_1 : (putE P A i r (F i)).1 = A.1 ∧ (putE P A i r (F i)).2.1 = A.2.1 := by
  unfold putE putA
  split
  · exact ⟨rfl, rfl⟩
  · split
    · exact lay_1 A _
    · exact ⟨rfl, rfl⟩
theorem tk_L : aL (takeE P A i r (E i)) i = if isAtA A i then aL A i else mvT P E r i (aL A i) := by
  unfold takeE takeA mvT
  cases h : isAtA A i
  · simp only [Bool.false_eq_true, if_false]
    split
    · rfl
    · exact if_pos rfl
  · simp only [if_true]
    split
    · rfl
    · rw [aL_lay]
theorem pt_L : aL (putE P A i r (F i)) i = if isAtA A i then aL A i else mvU P F r i (aL A i) := by
  unfold putE putA mvU
  cases h : isAtA A i
  · simp only [Bool.false_eq_true, if_false]
    split
    · rfl
    · exact if_pos rfl
  · simp only [if_true]
    split
    · rfl
    · rw [aL_lay]
theorem map_nil (o : Option JB) : o.map (fun J => jSdA J []) = o := by
  cases o
  · rfl
  · rw [Option.map_some, jSdA_nil]
theorem tk_J : aJ (takeE P A i r (E i)) = (aJ A).map (fun J => jSdA J (if jAt J = i then sdT E r i else [])) := by
  unfold takeE takeA sdT
  by_cases hE : E i = -1
  · rw [if_pos hE]
    cases h : aJ A
    · rfl
    · rw [Option.map_some]
      simp only [hE, if_true, ite_self, jSdA_nil]
  · rw [if_neg hE]
    cases h : isAtA A i
    · simp only [Bool.false_eq_true, if_false]
      show aJ A = _
      unfold isAtA at h
      cases hJ : aJ A with
      | none => rfl
      | some J =>
        rw [hJ] at h
        rw [Option.map_some, if_neg (show ¬ jAt J = i by simpa [atO] using h), jSdA_nil]
    · obtain ⟨J, hJ, ha⟩ := atO_some h
      simp only [if_true]
      rw [lay_J, hJ, Option.map_some, Option.map_some, if_pos ha, if_neg hE]
      rfl
theorem pt_J : aJ (putE P A i r (F i)) = (aJ A).map (fun J => jSdA J (if jAt J = i then sdU F r i else [])) := by
  unfold putE putA sdU
  by_cases hE : F i = -1
  · rw [if_pos hE]
    cases h : aJ A
    · rfl
    · rw [Option.map_some]
      simp only [hE, if_true, ite_self, jSdA_nil]
  · rw [if_neg hE]
    cases h : isAtA A i
    · simp only [Bool.false_eq_true, if_false]
      show aJ A = _
      unfold isAtA at h
      cases hJ : aJ A with
      | none => rfl
      | some J =>
        rw [hJ] at h
        rw [Option.map_some, if_neg (show ¬ jAt J = i by simpa [atO] using h), jSdA_nil]
    · obtain ⟨J, hJ, ha⟩ := atO_some h
      simp only [if_true]
      rw [lay_J, hJ, Option.map_some, Option.map_some, if_pos ha, if_neg hE]
      rfl
theorem at_map {o : Option JB} {g : JB → List Int32} : atO (o.map (fun J => jSdA J (g J))) i = atO o i := by cases o <;> rfl
theorem mv_one : (moveE P E F r A i).1 = A.1 ∧ (moveE P E F r A i).2.1 = A.2.1 ∧ (∀ j, j ≠ i → aL (moveE P E F r A i) j = aL A j) ∧ aL (moveE P E F r A i) i = (if isAtA A i then aL A i else mvL P E F r i (aL A i)) ∧ aJ (moveE P E F r A i) = (aJ A).map (fun J => jSdA J (if jAt J = i then sdE E F r i else [])) := by
  unfold moveE mvL sdE
  by_cases e : E i = F i
  · rw [if_pos e]
    refine ⟨rfl, rfl, fun _ _ => rfl, ?_, ?_⟩
    · rw [if_pos e, ite_self]
    · cases h : aJ A
      · rfl
      · rw [Option.map_some]
        simp only [e, if_true, ite_self, jSdA_nil]
  · rw [if_neg e, if_neg e]
    have hat : isAtA (takeE P A i r (E i)) i = isAtA A i := by unfold isAtA; rw [tk_J, at_map]
    refine ⟨pt_1.1.trans tk_1.1, pt_1.2.trans tk_1.2, fun j hj => by rw [putE_L hj, takeE_L hj], ?_, ?_⟩
    · rw [pt_L, hat, tk_L]
      cases isAtA A i <;> rfl
    · rw [pt_J, tk_J, Option.map_map]
      cases h : aJ A with
      | none => rfl
      | some J =>
        rw [Option.map_some, Option.map_some]
        simp only [Function.comp]
        rw [jSdA_app, jSdA_at]
        by_cases ha : jAt J = i
        · simp only [if_pos ha, if_neg e]
        · simp only [if_neg ha, List.append_nil]
/-- moved up to n -/
def mvd (P : PP) (E F : Nat → Int32) (r n : Nat) (A B : AS) : Prop := B.1 = A.1 ∧ B.2.1 = A.2.1 ∧ (∀ j, aL B j = if j < n ∧ isAtA A j = false then mvL P E F r j (aL A j) else aL A j) ∧ aJ B = (aJ A).map (fun J => jSdA J (if jAt J < n then sdE E F r (jAt J) else []))
theorem mvd_0 : mvd P E F r 0 A A := by
  refine ⟨rfl, rfl, fun j => by rw [if_neg (fun q => absurd q.1 (Nat.not_lt_zero _))], ?_⟩
  cases h : aJ A with
  | none => rfl
  | some J => rw [Option.map_some, if_neg (Nat.not_lt_zero _), jSdA_nil]
theorem mvd_L {X Y Z : LL} {b : Bool} {j n : Nat} (hX : X = if j < n ∧ b = false then Y else Z) (hne : j ≠ n) : X = if j < n + 1 ∧ b = false then Y else Z := by
  rw [hX]
  by_cases q : j < n ∧ b = false
  · rw [if_pos q, if_pos ⟨Nat.lt_succ_of_lt q.1, q.2⟩]
  · rw [if_neg q, if_neg (fun q' => q ⟨by omega, q'.2⟩)]
theorem mvd_e {X Y Z : LL} {b : Bool} {n : Nat} (hX : X = if b then Z else Y) : X = if n < n + 1 ∧ b = false then Y else Z := by
  rw [hX]
  cases b
  · rw [if_neg (by decide), if_pos ⟨Nat.lt_succ_self _, rfl⟩]
  · rw [if_pos rfl, if_neg (fun q => absurd q.2 (by decide))]
theorem mvd_j {J : JB} {n : Nat} : jSdA (jSdA J (if jAt J < n then sdE E F r (jAt J) else [])) (if jAt J = n then sdE E F r n else []) = jSdA J (if jAt J < n + 1 then sdE E F r (jAt J) else []) := by
  rw [jSdA_app]
  by_cases ha : jAt J = n
  · rw [if_neg (show ¬ jAt J < n by omega), if_pos ha, if_pos (show jAt J < n + 1 by omega), List.nil_append, ha]
  · rw [if_neg ha, List.append_nil]
    by_cases hb : jAt J < n
    · rw [if_pos hb, if_pos (show jAt J < n + 1 by omega)]
    · rw [if_neg hb, if_neg (show ¬ jAt J < n + 1 by omega)]
theorem mvd_s {B : AS} {n : Nat} (ih : mvd P E F r n A B) : mvd P E F r (n + 1) A (moveE P E F r B n) := by
  obtain ⟨i1, i2, i3, i4⟩ := ih
  obtain ⟨m1, m2, m3, m4, m5⟩ := mv_one (P := P) (A := B) (E := E) (F := F) (r := r) (i := n)
  have hat : isAtA B n = isAtA A n := by unfold isAtA; rw [i4, at_map]
  refine ⟨m1.trans i1, m2.trans i2, fun j => ?_, ?_⟩
  · by_cases e : j = n
    · have e0 : aL B n = aL A n := by rw [i3, if_neg (fun q => absurd q.1 (Nat.lt_irrefl _))]
      rw [hat, e0] at m4
      rw [e]
      exact mvd_e m4
    · exact mvd_L ((m3 j e).trans (i3 j)) e
  · rw [m5, i4, Option.map_map]
    cases h : aJ A with
    | none => rw [Option.map_none, Option.map_none]
    | some J =>
      rw [Option.map_some, Option.map_some]
      simp only [Function.comp]
      rw [jSdA_at]
      exact congrArg some mvd_j
theorem mv_n : ∀ (n : Nat), mvd P E F r n A ((List.range n).foldl (moveE P E F r) A) := by
  intro n
  induction n with
  | zero => exact mvd_0
  | succ n ih =>
    rw [List.range_succ, List.foldl_append, List.foldl_cons, List.foldl_nil]
    exact mvd_s ih
end MVP
