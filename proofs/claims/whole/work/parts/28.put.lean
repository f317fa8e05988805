/-! Leaves: put, take, pack -/
def spl (page : Nat) (l : List Nat) : LL := if page < l.length then [l.take (l.length - (page + 1) / 2), l.drop (l.length - (page + 1) / 2)] else [l]
def putL (page c : Nat) : LL → LL
  | [] => [[c]]
  | [l] => spl page (l.takeWhile (· < c) ++ c :: l.dropWhile (· < c))
  | l :: l2 :: r => if l2.headD 0 < c then l :: putL page c (l2 :: r) else spl page (l.takeWhile (· < c) ++ c :: l.dropWhile (· < c)) ++ l2 :: r
def takL (c : Nat) (L : LL) : LL := (L.map (·.filter (fun x => !(x == c)))).filter (fun l => !l.isEmpty)
def pk (page : Nat) : List Nat → LL → LL
  | l, [] => [l]
  | l, m :: r => if page < l.length + m.length then l :: pk page m r else pk page (l ++ m) r
def packL (page : Nat) : LL → LL
  | [] => []
  | l :: r => pk page l r
theorem spl_flat (page : Nat) (l : List Nat) : (spl page l).flatten = l := by
  unfold spl
  split
  · simp
  · simp
theorem dw_gt {l : List Nat} {c : Nat} (hs : l.Pairwise (· < ·)) (hc : c ∉ l) : ∀ x ∈ l.dropWhile (· < c), c < x := by
  induction l with
  | nil => intro x hx; simp at hx
  | cons y l ih =>
    obtain ⟨hy, hs'⟩ := List.pairwise_cons.mp hs
    have hcy : c ≠ y := fun e => hc (by rw [e]; exact List.mem_cons_self)
    have hcl : c ∉ l := fun e => hc (List.mem_cons_of_mem _ e)
    intro x hx
    rw [List.dropWhile_cons] at hx
    by_cases h : y < c
    · simp only [h, decide_true, if_true] at hx
      exact ih hs' hcl x hx
    · simp only [h, decide_false, Bool.false_eq_true, if_false] at hx
      rcases List.mem_cons.mp hx with rfl | hx
      · omega
      · have := hy x hx; omega
theorem put_dec (page c : Nat) : ∀ (L : LL), L ≠ [] → (∀ l ∈ L, l ≠ []) → L.flatten.Pairwise (· < ·) → c ∉ L.flatten → ∃ (A : LL) (l1 l2 : List Nat) (B : LL), L = A ++ (l1 ++ l2) :: B ∧ (∀ x ∈ A.flatten, x < c) ∧ (∀ x ∈ l1, x < c) ∧ (∀ x ∈ l2, c < x) ∧ (∀ x ∈ B.flatten, c < x) ∧ (l1 = [] → A = []) ∧ putL page c L = A ++ (spl page (l1 ++ c :: l2) ++ B)
  | [], h, _, _, _ => absurd rfl h
  | [l], _, _, hs, hc => by
    simp only [List.flatten_cons, List.flatten_nil, List.append_nil] at hs hc
    refine ⟨[], l.takeWhile (· < c), l.dropWhile (· < c), [], ?_, ?_, ?_, dw_gt hs hc, ?_, fun _ => rfl, ?_⟩
    · simp [List.takeWhile_append_dropWhile]
    · intro x hx; simp at hx
    · intro x hx; simpa using tw_mem hx
    · intro x hx; simp at hx
    · simp [putL]
  | l :: l2 :: r, _, hne, hs, hc => by
    have hs0 := hs
    rw [List.flatten_cons, List.pairwise_append] at hs
    obtain ⟨s1, s2, s3⟩ := hs
    have hcl : c ∉ l := fun e => hc (by rw [List.flatten_cons]; exact List.mem_append_left _ e)
    have hcr : c ∉ (l2 :: r).flatten := fun e => hc (by rw [List.flatten_cons]; exact List.mem_append_right _ e)
    have hl2 : l2 ≠ [] := hne l2 (by simp)
    obtain ⟨y, ys, rfl⟩ := List.exists_cons_of_ne_nil hl2
    have hyin : y ∈ ((y :: ys) :: r).flatten := by simp
    by_cases h : y < c
    · obtain ⟨A, l1, l2', B, e1, p1, p2, p3, p4, p5, p6⟩ := put_dec page c ((y :: ys) :: r) (by simp) (fun x hx => hne x (List.mem_cons_of_mem _ hx)) s2 hcr
      refine ⟨l :: A, l1, l2', B, by rw [e1]; rfl, ?_, p2, p3, p4, ?_, ?_⟩
      · intro x hx
        rw [List.flatten_cons] at hx
        rcases List.mem_append.mp hx with hx | hx
        · have := s3 x hx y hyin; omega
        · exact p1 x hx
      · intro e
        have hA := p5 e
        subst hA
        subst e
        simp only [List.nil_append, List.cons.injEq] at e1
        have := p3 y (by rw [← e1.1]; simp)
        omega
      · rw [putL]
        simp only [List.headD_cons, h, if_true, p6]
        rfl
    · refine ⟨[], l.takeWhile (· < c), l.dropWhile (· < c), (y :: ys) :: r, ?_, ?_, ?_, dw_gt s1 hcl, ?_, fun _ => rfl, ?_⟩
      · simp [List.takeWhile_append_dropWhile]
      · intro x hx; simp at hx
      · intro x hx; simpa using tw_mem hx
      · intro x hx
        have hyc : c ≠ y := fun e => hcr (by rw [e]; exact hyin)
        rw [List.flatten_cons, List.cons_append] at hx s2
        rcases List.mem_cons.mp hx with rfl | hx
        · omega
        · have := (List.pairwise_cons.mp s2).1 x hx; omega
      · rw [putL]
        simp [h]
theorem put_ok {page c : Nat} {L : LL} (hk : okL page L) (hl : L.flatten.length < 30) (hc : c < 32000) (hr : c % 32 < 30) (hn : c % 32 ∉ L.flatten.map (· % 32)) : okL page (putL page c L) := by
  have hcn : c ∉ L.flatten := fun h => hn (List.mem_map.mpr ⟨c, h, rfl⟩)
  by_cases h0 : L = []
  · subst h0
    obtain ⟨⟨a1, a2⟩, -⟩ := hk
    refine ⟨⟨a1, a2⟩, by simp [putL], ?_, ?_, ?_, ?_⟩
    · intro l hx
      simp only [putL, List.mem_singleton] at hx
      subst hx
      exact ⟨by simp, by simp; omega⟩
    · intro x hx
      simp only [putL, List.flatten_cons, List.flatten_nil, List.append_nil, List.mem_singleton] at hx
      subst hx
      exact ⟨hc, hr⟩
    · simp [putL]
    · simp [putL]
  · obtain ⟨a1, a2, a3, a4, a5, a6⟩ := hk
    obtain ⟨A, l1, l2, B, e1, p1, p2, p3, p4, p5, p6⟩ := put_dec page c L h0 (fun l hl => (a3 l hl).1) a5 hcn
    have hfl : L.flatten = A.flatten ++ (l1 ++ (l2 ++ B.flatten)) := by rw [e1]; simp
    have hfp : (putL page c L).flatten = A.flatten ++ (l1 ++ c :: (l2 ++ B.flatten)) := by rw [p6]; simp [spl_flat]
    have hlen : (putL page c L).flatten.length = L.flatten.length + 1 := by
      rw [hfl, hfp]
      simp only [List.length_append, List.length_cons]
      omega
    have hperm : (putL page c L).flatten.Perm (c :: L.flatten) := by
      rw [hfl, hfp, ← List.append_assoc, ← List.append_assoc A.flatten]
      exact List.perm_middle
    have hll : (l1 ++ l2).length ≤ page := (a3 (l1 ++ l2) (by rw [e1]; simp)).2
    refine ⟨a1, by omega, ?_, ?_, ?_, ?_⟩
    · intro l hx
      rw [p6] at hx
      rcases List.mem_append.mp hx with hx | hx
      · exact a3 l (by rw [e1]; simp [hx])
      · rcases List.mem_append.mp hx with hx | hx
        · unfold spl at hx
          have hlc : (l1 ++ c :: l2).length = (l1 ++ l2).length + 1 := by simp only [List.length_append, List.length_cons]; omega
          split at hx
          · rename_i hgt
            have hpg : (l1 ++ c :: l2).length = page + 1 := by omega
            rw [hpg] at hx
            rcases List.mem_cons.mp hx with rfl | hx
            · refine ⟨fun e => ?_, by rw [List.length_take]; omega⟩
              have := congrArg List.length e
              rw [List.length_take, hpg] at this
              simp at this
              omega
            · rw [List.mem_singleton] at hx
              subst hx
              refine ⟨fun e => ?_, by rw [List.length_drop, hpg]; omega⟩
              have := congrArg List.length e
              rw [List.length_drop, hpg] at this
              simp at this
              omega
          · rename_i hgt
            rw [List.mem_singleton] at hx
            subst hx
            exact ⟨by simp, by omega⟩
        · exact a3 l (by rw [e1]; simp [hx])
    · intro x hx
      rcases List.mem_cons.mp (hperm.mem_iff.mp hx) with rfl | hx
      · exact ⟨hc, hr⟩
      · exact a4 x hx
    · rw [hfp]
      rw [hfl] at a5
      rw [List.pairwise_append, List.pairwise_append, List.pairwise_append] at a5
      obtain ⟨q1, ⟨q2, ⟨q3, q4, q5⟩, q6⟩, q7⟩ := a5
      rw [List.pairwise_append, List.pairwise_append, List.pairwise_cons, List.pairwise_append]
      refine ⟨q1, ⟨q2, ⟨fun x hx => ?_, q3, q4, q5⟩, fun x hx y hy => ?_⟩, fun x hx y hy => ?_⟩
      · rcases List.mem_append.mp hx with hx | hx
        · exact p3 x hx
        · exact p4 x hx
      · rcases List.mem_cons.mp hy with rfl | hy
        · exact p2 x hx
        · exact q6 x hx y hy
      · rcases List.mem_append.mp hy with hy2 | hy2
        · exact q7 x hx y (List.mem_append_left _ hy2)
        · rcases List.mem_cons.mp hy2 with rfl | hy2
          · exact p1 x hx
          · exact q7 x hx y (List.mem_append_right _ hy2)
    · have := (hperm.map (· % 32)).nodup_iff.mpr (by simp only [List.map_cons, List.nodup_cons]; exact ⟨hn, a6⟩)
      exact this
/-- an array holds a list -/
def hold (f : Nat → Int32) (l : List Nat) : Prop := ∀ i (hi : i < l.length), f i = nI l[i]
/-- moved one to the right: those behind j up to n -/
def shR (f : Nat → Int32) (n j : Nat) : Nat → Int32 := fun i => if j < i ∧ i ≤ n then f (i - 1) else f i
def shL (f : Nat → Int32) (a j : Nat) : Nat → Int32 := fun i => if a ≤ i ∧ i < j then f (i + 1) else f i
theorem shR_n (f : Nat → Int32) (n : Nat) : shR f n n = f := funext fun i => if_neg (by omega)
theorem shL_a (f : Nat → Int32) (a : Nat) : shL f a a = f := funext fun i => if_neg (by omega)
theorem shR_step {f : Nat → Int32} {n j : Nat} (h : j + 1 ≤ n) : upd (shR f n (j + 1)) (j + 1) (shR f n (j + 1) j) = shR f n j := by
  funext i
  by_cases e : i = j + 1
  · subst e
    rw [upd_at]
    unfold shR
    rw [if_neg (by omega), if_pos (by omega)]
    rfl
  · rw [upd_ne _ _ e]
    unfold shR
    by_cases e2 : j + 1 < i ∧ i ≤ n
    · rw [if_pos e2, if_pos (by omega)]
    · rw [if_neg e2, if_neg (by omega)]
theorem shL_step {f : Nat → Int32} {a j : Nat} (h : a ≤ j) : upd (shL f a j) j (shL f a j (j + 1)) = shL f a (j + 1) := by
  funext i
  by_cases e : i = j
  · subst e
    rw [upd_at]
    unfold shL
    rw [if_neg (by omega), if_pos (by omega)]
  · rw [upd_ne _ _ e]
    unfold shL
    by_cases e2 : a ≤ i ∧ i < j
    · rw [if_pos e2, if_pos (by omega)]
    · rw [if_neg e2, if_neg (by omega)]
theorem hold_ins {f : Nat → Int32} {l1 l2 : List Nat} (x : Nat) (h : hold f (l1 ++ l2)) : hold (upd (shR f (l1 ++ l2).length l1.length) l1.length (nI x)) (l1 ++ x :: l2) := by
  intro i hi
  simp only [List.length_append, List.length_cons] at hi
  rcases Nat.lt_trichotomy i l1.length with h1 | h1 | h1
  · rw [upd_ne _ _ (by omega)]
    unfold shR
    rw [if_neg (by omega), h i (by simp; omega), List.getElem_append_left h1, List.getElem_append_left h1]
  · subst h1
    rw [upd_at, List.getElem_append_right (Nat.le_refl _)]
    simp
  · rw [upd_ne _ _ (by omega)]
    unfold shR
    rw [if_pos (by simp only [List.length_append]; omega), h (i - 1) (by simp; omega), List.getElem_append_right (by omega), List.getElem_append_right (by omega)]
    obtain ⟨k, hk⟩ : ∃ k, i = l1.length + k + 1 := ⟨i - l1.length - 1, by omega⟩
    subst hk
    simp only [show l1.length + k + 1 - l1.length = k + 1 by omega, show l1.length + k + 1 - 1 - l1.length = k by omega, List.getElem_cons_succ]
theorem hold_upd {f : Nat → Int32} {l1 l2 : List Nat} {x : Nat} (y : Nat) (h : hold f (l1 ++ x :: l2)) : hold (upd f l1.length (nI y)) (l1 ++ y :: l2) := by
  intro i hi
  simp only [List.length_append, List.length_cons] at hi
  rcases Nat.lt_trichotomy i l1.length with h1 | h1 | h1
  · rw [upd_ne _ _ (by omega), h i (by simp; omega), List.getElem_append_left h1, List.getElem_append_left h1]
  · subst h1
    rw [upd_at, List.getElem_append_right (Nat.le_refl _)]
    simp
  · rw [upd_ne _ _ (by omega), h i (by simp; omega), List.getElem_append_right (by omega), List.getElem_append_right (by omega)]
    obtain ⟨k, hk⟩ : ∃ k, i = l1.length + k + 1 := ⟨i - l1.length - 1, by omega⟩
    subst hk
    simp only [show l1.length + k + 1 - l1.length = k + 1 by omega, List.getElem_cons_succ]
theorem hold_del {f : Nat → Int32} {l1 l2 : List Nat} {x : Nat} (h : hold f (l1 ++ x :: l2)) : hold (shL f l1.length (l1 ++ l2).length) (l1 ++ l2) := by
  intro i hi
  simp only [List.length_append] at hi
  unfold shL
  rcases Nat.lt_or_ge i l1.length with h1 | h1
  · rw [if_neg (by omega), h i (by simp; omega), List.getElem_append_left h1, List.getElem_append_left h1]
  · rw [if_pos (by simp only [List.length_append]; omega), h (i + 1) (by simp; omega), List.getElem_append_right (by omega), List.getElem_append_right (by omega)]
    obtain ⟨k, hk⟩ : ∃ k, i = l1.length + k := ⟨i - l1.length, by omega⟩
    subst hk
    simp only [show l1.length + k + 1 - l1.length = k + 1 by omega, show l1.length + k - l1.length = k by omega, List.getElem_cons_succ]
theorem hold_at {f : Nat → Int32} {l1 l2 : List Nat} {x : Nat} (h : hold f (l1 ++ x :: l2)) : f l1.length = nI x := by
  rw [h l1.length (by simp), List.getElem_append_right (Nat.le_refl _)]
  simp
theorem hold.cong {f g : Nat → Int32} {l : List Nat} (h : hold f l) (e : ∀ i, i < l.length → g i = f i) : hold g l := fun i hi => (e i hi).trans (h i hi)
theorem gsa_self (G : GG) (n : Nat) : gsa G n (G.1 n) = G := by
  unfold gsa
  have : (fun n' => if n' = n then G.1 n else G.1 n') = G.1 := by
    funext n'
    by_cases h : n' = n
    · rw [if_pos h, h]
    · rw [if_neg h]
  rw [this]
theorem gsi_gsa (G : GG) (n : Nat) (f : Nat → Int32) (k : Nat) (v : Int32) : gsi (gsa G n f) n k v = gsa G n (upd f k v) := by
  unfold gsi gsa
  simp only [if_true]
  congr 1
  funext n'
  by_cases h : n' = n
  · simp [h]
  · simp [h]
theorem isLv_iff {G : GG} {t page : Nat} {down : Bool} {L : LL} : isLv G t page down L ↔ (G.1 t 2 = nI L.flatten.length ∧ G.1 t 3 = nI L.length ∧ G.1 t 4 = nI page ∧ G.1 t 5 = (if down then 1 else 0)) ∧ hold (G.1 (t + 1)) L.flatten ∧ hold (G.1 (t + 2)) (L.map List.length) := by
  unfold isLv hold
  constructor
  · rintro ⟨h1, h2, h3⟩
    exact ⟨h1, h2, fun i hi => by rw [List.getElem_map]; exact h3 i (by simpa using hi)⟩
  · rintro ⟨h1, h2, h3⟩
    exact ⟨h1, h2, fun i hi => by have := h3 i (by simpa using hi); rw [List.getElem_map] at this; exact this⟩
