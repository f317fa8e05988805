/-! what holds of a STATE at every time: said -/
theorem srt_ext : ∀ {l m : List Nat}, l.Pairwise (· < ·) → m.Pairwise (· < ·) → (∀ x, x ∈ l ↔ x ∈ m) → l = m
  | [], [], _, _, _ => rfl
  | [], y :: m, _, _, h => absurd ((h y).mpr List.mem_cons_self) (by simp)
  | x :: l, [], _, _, h => absurd ((h x).mp List.mem_cons_self) (by simp)
  | x :: l, y :: m, hl, hm, h => by
    have hl' := List.pairwise_cons.mp hl
    have hm' := List.pairwise_cons.mp hm
    have e : x = y := by
      rcases List.mem_cons.mp ((h x).mp List.mem_cons_self) with q | q
      · exact q
      · rcases List.mem_cons.mp ((h y).mpr List.mem_cons_self) with q2 | q2
        · exact q2.symm
        · have := hm'.1 x q
          have := hl'.1 y q2
          omega
    subst e
    rw [srt_ext hl'.2 hm'.2 (fun z => ⟨fun hz => by
      rcases List.mem_cons.mp ((h z).mp (List.mem_cons_of_mem _ hz)) with q | q
      · subst q; exact absurd (hl'.1 z hz) (Nat.lt_irrefl _)
      · exact q, fun hz => by
      rcases List.mem_cons.mp ((h z).mpr (List.mem_cons_of_mem _ hz)) with q | q
      · subst q; exact absurd (hm'.1 z hz) (Nat.lt_irrefl _)
      · exact q⟩)]
theorem left_congr {page : Nat} {L M : LL} {d : Int32} (hL : okL page L) (hM : okL page M) (h : ∀ c, bt d (c % 32) = true → (c ∈ L.flatten ↔ c ∈ M.flatten)) : leftN d L = leftN d M := by
  unfold leftN
  rw [srt_ext (hL.2.2.2.2.1.filter _) (hM.2.2.2.2.1.filter _) (fun c => by
    rw [List.mem_filter, List.mem_filter]
    exact ⟨fun q => ⟨(h c q.2).mp q.1, q.2⟩, fun q => ⟨(h c q.2).mpr q.1, q.2⟩⟩)]
theorem left_0 {L : LL} {d : Int32} : leftN d L = 0 ↔ ∀ c ∈ L.flatten, bt d (c % 32) = false := by
  unfold leftN
  rw [List.length_eq_zero_iff, List.filter_eq_nil_iff]
  constructor
  · intro h c hc
    simpa using h c hc
  · intro h c hc
    rw [h c hc]; decide
theorem cnt_fil {p : Nat → Bool} {c : Nat} (hpc : p c = true) : ∀ {l : List Nat}, l.Pairwise (· < ·) → c ∈ l → ((l.filter (fun x => !(x == c))).filter p).length + 1 = (l.filter p).length
  | [], _, h => absurd h (by simp)
  | x :: l, hl, h => by
    have hl' := List.pairwise_cons.mp hl
    by_cases e : x = c
    · subst e
      have hn : x ∉ l := fun q => absurd (hl'.1 x q) (Nat.lt_irrefl _)
      rw [List.filter_cons, if_neg (by simp), fil_ne hn, List.filter_cons, if_pos hpc, List.length_cons]
    · have hc : c ∈ l := by
        rcases List.mem_cons.mp h with q | q
        · exact absurd q.symm e
        · exact q
      have ih := cnt_fil hpc hl'.2 hc
      rw [List.filter_cons, if_pos (by simpa using e), List.filter_cons, List.filter_cons]
      cases p x
      · simpa using ih
      · simpa using ih
theorem left_tak {page : Nat} {L : LL} {d : Int32} {c : Nat} (hL : okL page L) (hc : c ∈ L.flatten) (hd : bt d (c % 32) = true) : leftN d (takL c L) + 1 = leftN d L := by
  unfold leftN
  rw [tak_flat]
  exact cnt_fil (p := fun c => bt d (c % 32)) hd hL.2.2.2.2.1 hc
theorem tak_mem {L : LL} {c x : Nat} : x ∈ (takL c L).flatten ↔ x ∈ L.flatten ∧ x ≠ c := by
  rw [tak_flat, List.mem_filter]
  simp
theorem bc_0 {x : Int32} : bc x = 0 ↔ x = 0 := by
  unfold bc
  rw [List.length_eq_zero_iff, List.filter_eq_nil_iff]
  constructor
  · intro h
    exact int_z (fun i hi => by simpa using h i (List.mem_range.mpr hi))
  · rintro rfl i _
    rw [b_0]; decide
theorem rb_0 {page : Nat} {L : LL} {d : Int32} (hL : okL page L) : rb L &&& d = 0 ↔ leftN d L = 0 := by rw [← bc_left d hL, bc_0]
/-! a ROW belongs to a partial INDEX by its own values -/
theorem holdsG_congr {s t : Lim → Bool} : ∀ {l : List Lim} {g : Bool}, (∀ x ∈ l, s x = t x) → holdsG s g l = holdsG t g l
  | [], _, _ => rfl
  | x :: l, g, h => by
    unfold holdsG
    rw [h x List.mem_cons_self, holdsG_congr (fun y hy => h y (List.mem_cons_of_mem _ hy)), holdsG_congr (fun y hy => h y (List.mem_cons_of_mem _ hy))]
theorem holdsW_congr {s t : Lim → Bool} : ∀ {l : List Lim}, (∀ x ∈ l, s x = t x) → holdsW s l = holdsW t l
  | [], _ => rfl
  | x :: l, h => by
    show holdsG s (s x) l = holdsG t (t x) l
    rw [h x List.mem_cons_self, holdsG_congr (fun y hy => h y (List.mem_cons_of_mem _ hy))]
theorem part_loc {P : PP} {A B : AS} (hP : okPP P) {r : Nat} (h : ∀ k, k < 3 → aV B r k = aV A r k) : partA P B r = partA P A r := by
  unfold partA
  refine holdsW_congr (fun l hl => ?_)
  have ok := hP.2.2.2.2.1.2 l hl
  unfold limN limS
  rcases hP.2.2.2.2.2.1 l hl with e | e | e
  · rcases ok with o | o | o | o | o
    · simp only [e, if_true, h _ o.2.1]
    all_goals (rw [e] at o; first | exact absurd o.1 (by decide) | exact absurd o (by decide))
  · rcases ok with o | o | o | o | o
    · rw [e] at o; exact absurd o.1 (by decide)
    · rw [e, if_neg (by decide), if_pos rfl, if_neg (by decide), if_pos rfl, h _ o.2.1, h _ o.2.2]
    all_goals (rw [e] at o; first | exact absurd o.1 (by decide) | exact absurd o (by decide))
  · rw [e, if_neg (by decide), if_neg (by decide), if_pos rfl, if_neg (by decide), if_neg (by decide), if_pos rfl]
theorem bel_loc {P : PP} {A B : AS} (hP : okPP P) {i r : Nat} (h : ∀ k, k < 3 → aV B r k = aV A r k) : belA P B i r = belA P A i r := by unfold belA; rw [part_loc hP h]
theorem cod_loc {P : PP} {A B : AS} (hP : okPP P) {i r : Nat} (hi : i < pNi P) (h : ∀ k, k < 3 → aV B r k = aV A r k) : codA P B i r = codA P A i r := by unfold codA valA; rw [h _ (hP.2.2.1 i hi).2]
theorem okV_loc {P : PP} {A B : AS} (hP : okPP P) {i c : Nat} (hi : i < pNi P) (h : ∀ k, k < 3 → aV B (c % 32) k = aV A (c % 32) k) (hv : bt (visA B) (c % 32) = bt (visA A) (c % 32)) : okV P B i c ↔ okV P A i c := by unfold okV; rw [cod_loc hP hi h, bel_loc hP h, hv]
theorem okC_loc {P : PP} {A B : AS} (hP : okPP P) {i c : Nat} (hi : i < pNi P) (h : ∀ k, k < 3 → aV B (c % 32) k = aV A (c % 32) k) (hv : bt (aC B) (c % 32) = bt (aC A) (c % 32)) : okC P B i c ↔ okC P A i c := by unfold okC; rw [cod_loc hP hi h, bel_loc hP h, hv]
/-! the whole of it -/
def atN (o : Option JB) : Nat := match o with
  | none => 0
  | some J => jAt J
def sumL (P : PP) (A : AS) : Nat := ((List.range (pNi P)).map (fun i => leftN (aC A) (aL A i))).sum
def invP (A : AS) : Prop := ∀ p, p < aN A → ∀ v, v ≤ 999 → aT A p = nI v → ∃ r, bt (visA A) r = true ∧ aV A r 0 = v
def onlyI (P : PP) (A : AS) (d : Int32) : Prop := ∀ i, i < pNi P → pKd P i = 2 → ∀ r q, bt d r = true → bt d q = true → valA P A i r = valA P A i q → r = q
def invT (P : PP) (A : AS) : Prop := ∀ i, i < pNi P → isAtA A i = false → ∀ c, c ∈ (aL A i).flatten ↔ okV P A i c ∨ (okC P A i c ∧ atN (aJ A) < i)
def baseA (A : AS) (i c : Nat) : Prop := c ∈ (aL A i).flatten ∧ bt (aC A) (c % 32) = false
def invSt (P : PP) (A : AS) (J : JB) : Prop := okL (pPg P) (jSt J) ∧ (∀ c, bt (aC A) (c % 32) = false → (c ∈ (jSt J).flatten ↔ c ∈ (aL A (jAt J)).flatten)) ∧ (∀ c ∈ (jSt J).flatten, bt (aC A) (c % 32) = true → okC P A (jAt J) c) ∧ leftN (aC A) (jSt J) = leftN (aC A) (aL A (jAt J)) + jSi J ∧ (jSi J = 0 → jSt J = aL A (jAt J))
def invAt (P : PP) (A : AS) (J : JB) : Prop := (rpl P (jAt J) (baseA A (jAt J)) (jSd J) (okV P A (jAt J)) ∧ ∀ x ∈ jSd J, bt (aC A) (sdN x / 1000) = false) ∧ (∀ c ∈ (aL A (jAt J)).flatten, bt (aC A) (c % 32) = true → okC P A (jAt J) c) ∧ invSt P A J ∧ 1 ≤ leftN (aC A) (aL A (jAt J)) ∧ jGo J + leftN (aC A) (aL A (jAt J)) ≤ 30 ∧ jSi J ≤ jGo J ∧ (jWy J = 0 ∨ jWy J = 1)
def invB (A : AS) : Prop := ∀ p, p < aN A → aB A p = -1 ∨ ∃ v, v ≤ 999 ∧ aB A p = nI v ∧ ((aS A p = 1 ∧ aT A p = -1) ∨ (aS A p = 2 ∧ aT A p = -2)) ∧ ∃ r, bt (aC A) r = true ∧ aV A r 0 = v
/-- nothing has gone yet -/
def invH (P : PP) (A : AS) (J : JB) : Prop := jRe J = [] → (∀ i, i < pNi P → i < jAt J → ∀ c, ¬ okC P A i c) ∧ (jAt J < pNi P → ∀ c, okC P A (jAt J) c → c ∈ (jSt J).flatten)
def invJ (P : PP) (A : AS) (J : JB) : Prop := (jAt J < pNi P ∨ (jAt J = 4 ∧ jSd J = [] ∧ jSi J = 0 ∧ jWy J = -1)) ∧ (jAt J < pNi P → invAt P A J) ∧ (jRe J).length + jSi J + sumL P A ≤ 120 ∧ invB A ∧ invH P A J
def invN (A : AS) : Prop := aC A = 0 ∧ ∀ p, p < aN A → aB A p = -1
def INV (P : PP) (A : AS) : Prop := (okPP P ∧ okA P A) ∧ (invP A ∧ onlyI P A (visA A) ∧ onlyI P A (aC A)) ∧ invT P A ∧ (aJ A = none → invN A) ∧ ∀ J, aJ A = some J → invJ P A J
