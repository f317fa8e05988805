/-! LEAVES (the class) -/
def isLv (G : GG) (t page : Nat) (down : Bool) (L : LL) : Prop :=
  (G.1 t 2 = nI L.flatten.length ∧ G.1 t 3 = nI L.length ∧ G.1 t 4 = nI page ∧ G.1 t 5 = (if down then 1 else 0)) ∧ (∀ i (hi : i < L.flatten.length), G.1 (t + 1) i = nI L.flatten[i]) ∧ ∀ k (hk : k < L.length), G.1 (t + 2) k = nI L[k].length
/-- leaves as they must be -/
def okL (page : Nat) (L : LL) : Prop := (2 ≤ page ∧ page ≤ 8) ∧ L.flatten.length ≤ 30 ∧ (∀ l ∈ L, l ≠ [] ∧ l.length ≤ page) ∧ (∀ c ∈ L.flatten, c < 32000 ∧ c % 32 < 30) ∧ L.flatten.Pairwise (· < ·) ∧ (L.flatten.map (· % 32)).Nodup
theorem len_flat : ∀ {L : LL}, (∀ l ∈ L, l ≠ []) → L.length ≤ L.flatten.length
  | [], _ => Nat.le_refl _
  | l :: L, h => by
    have h1 := len_flat (L := L) (fun x hx => h x (List.mem_cons_of_mem _ hx))
    have h2 : l ≠ [] := h l List.mem_cons_self
    have h3 : 0 < l.length := List.length_pos_iff.mpr h2
    simp only [List.length_cons, List.flatten_cons, List.length_append]
    omega
theorem okL.len {page : Nat} {L : LL} (h : okL page L) : L.length ≤ 30 := Nat.le_trans (len_flat (fun l hl => (h.2.2.1 l hl).1)) h.2.1
theorem okL.cod {page : Nat} {L : LL} (h : okL page L) {i : Nat} (hi : i < L.flatten.length) : L.flatten[i] < 32000 := (h.2.2.2.1 _ (List.getElem_mem hi)).1
/-- the leaf of each entry -/
def zl : Nat → LL → List (Nat × Nat)
  | _, [] => []
  | k, l :: r => l.map (fun c => (k, c)) ++ zl (k + 1) r
/-- the first and the last leaf that have any left, how many have -/
def pcS (d : Int32) (a : Option (Nat × Nat × Nat)) (q : Nat × Nat) : Option (Nat × Nat × Nat) :=
  if bt d (q.2 % 32) then (match a with
    | none => some (q.1, q.1, 1)
    | some (f, l, n) => if l = q.1 then some (f, l, n) else some (f, q.1, n + 1)) else a
def passC (d : Int32) (page : Nat) (L : LL) : Nat := match (zl 0 L).foldl (pcS d) none with
  | none => 0
  | some (f, l, n) => hg page L.length + (l - f + 1) + n
def leftN (d : Int32) (L : LL) : Nat := (L.flatten.filter (fun c => bt d (c % 32))).length
def probeC (d : Int32) (page : Nat) (L : LL) : Nat := (hg page L.length + 2) * leftN d L
def wayN (d : Int32) (page : Nat) (L : LL) : Nat := if probeC d page L < passC d page L then 1 else 0
/-- the rows of the entries, as bits -/
def rb (L : LL) : Int32 := L.flatten.foldl (fun a c => a ||| sbit (c % 32)) 0
/-- the rows left, as they go -/
def leftsP (d : Int32) (L : LL) : List Nat := (L.flatten.filter (fun c => bt d (c % 32))).map (· % 32)
def leftsR (d : Int32) (L : LL) : List Nat := (List.range 30).filter (fun r => bt (rb L &&& d) r)
def leftsW (way : Nat) (d : Int32) (L : LL) : List Nat := if way = 0 then leftsP d L else leftsR d L
def valD (down : Bool) (c : Nat) : Nat := if down then 999 - c / 32 else c / 32
section LVS
variable {G : GG} {t page : Nat} {down : Bool} {L : LL}
theorem s_Lv_height (ho : okLv t) (hi : isLv G t page down L) (hp2 : 2 ≤ page ∧ page ≤ 8) (hl : L.length ≤ 30) : f_Lv_height [.ref t] (hp G) = some (some (.int (nI (hg page L.length))), hp G) := by
  have loop : ∀ (n high f : Nat), n + high ≤ 31 → n < f → mm_run p_Lv_height f 7 [.ref t, .int (nI high), .int (nI n)] [] (hp G) = some (some (.int (nI (high + hg page n))), hp G) := by
    intro n
    induction n using Nat.strongRecOn with
    | ind n ih =>
      intro high f h1 h2
      obtain ⟨f, rfl⟩ : ∃ g, f = g + 1 := ⟨f - 1, by omega⟩
      rw [e_Lv_height_7]
      simp (disch := omega) only [gg_Lv_page _ ho, hi.1.2.2.1, Option.bind_some, n_lit, n_lt, n_eq, nI_add, n_sub, n_div]
      by_cases hn : 1 < n
      · have hl2 := hg_less hp2.1 hn
        rw [if_pos hn, if_pos (by omega), if_pos (by omega), if_neg (by omega), ih _ hl2 (high + 1) f (by omega) (by omega), hg_step hp2.1 hn]
        congr 5
        omega
      · rw [if_neg hn, hg_end hn]
        rfl
  rw [e_Lv_height t _ (ob_Lv G ho)]
  simp only [gg_Lv_leaves _ ho, hi.1.2.1, Option.bind_some]
  rw [show (0 : Int32) = nI 0 from rfl, loop _ 0 mm_fu (by omega) (fu_lt (by omega))]
  simp
theorem s_Lv_code (ho : okLv t) (hi : isLv G t page down L) {v r : Nat} (hv : v ≤ 999) : f_Lv_code [.ref t, .int (nI v), .int (nI r)] (hp G) = some (some (.int (nI ((if down then 999 - v else v) * 32 + r))), hp G) := by
  rw [e_Lv_code t _ _ _ (ob_Lv G ho)]
  cases down <;> simp (disch := omega) [gg_Lv_down _ ho, hi.1.2.2.2, n_lit, n_lt, n_eq, nI_add, n_sub, n_mul]
theorem s_Lv_valueIn (ho : okLv t) (hi : isLv G t page down L) {c : Nat} (hc : c < 32000) : f_Lv_valueIn [.ref t, .int (nI c)] (hp G) = some (some (.int (nI (valD down c))), hp G) := by
  rw [e_Lv_valueIn t _ _ (ob_Lv G ho)]
  have h1 : c / 32 ≤ 999 := by omega
  cases down <;> simp (disch := omega) [gg_Lv_down _ ho, hi.1.2.2.2, n_lit, n_lt, n_eq, nI_add, n_sub, n_mul, n_div, valD]
theorem s_Lv_rowIn (c : Nat) (h : mm_H) : f_Lv_rowIn [.int (nI c)] h = some (some (.int (nI (c % 32))), h) := by
  rw [e_Lv_rowIn, show (31 : Int32) = nI 31 from rfl, n_and31]
theorem s_Lv_placeOf (ho : okLv t) (hi : isLv G t page down L) (hn : L.flatten.length ≤ 30) (hb : ∀ c ∈ L.flatten, c < 32000) {c : Nat} (hc : c < 2147483648) : f_Lv_placeOf [.ref t, .int (nI c)] (hp G) = some (some (.int (nI ((L.flatten.takeWhile (· < c)).length))), hp G) := by
  have loop : ∀ (m i f : Nat), i + m = L.flatten.length → m < f → mm_run p_Lv_placeOf f 2 [.ref t, .int (nI c), .int (nI i)] [] (hp G) = some (some (.int (nI (i + ((L.flatten.drop i).takeWhile (· < c)).length))), hp G) := by
    intro m
    induction m with
    | zero =>
      intro i f h1 h2
      obtain ⟨f, rfl⟩ : ∃ g, f = g + 1 := ⟨f - 1, by omega⟩
      rw [e_Lv_placeOf_2]
      simp (disch := omega) only [gg_Lv_entries _ ho, hi.1.1, Option.bind_some, n_lt]
      rw [if_neg (by omega), List.drop_of_length_le (by omega)]
      rfl
    | succ m ih =>
      intro i f h1 h2
      obtain ⟨f, rfl⟩ : ∃ g, f = g + 1 := ⟨f - 1, by omega⟩
      have hil : i < L.flatten.length := by omega
      have hb1 : L.flatten[i] < 32000 := hb _ (List.getElem_mem hil)
      rw [e_Lv_placeOf_2]
      simp (disch := omega) only [gg_Lv_entries _ ho, gg_Lv_entry _ ho, rr_Lv_entry _ ho, hi.1.1, hi.2.1 i hil, Option.bind_some, n_lt, n_lit, nI_add]
      rw [if_pos hil, ih (i + 1) f (by omega) (by omega), drop_cons hil, List.takeWhile_cons]
      by_cases hlt : L.flatten[i] < c
      · simp only [hlt, if_true, decide_true, List.length_cons]
        congr 5
        omega
      · simp only [hlt, if_false, decide_false, Bool.false_eq_true]
        rfl
  rw [e_Lv_placeOf t _ _ (ob_Lv G ho), show (0 : Int32) = nI 0 from rfl, loop _ 0 mm_fu (Nat.zero_add _) (fu_lt (by omega))]
  simp
theorem s_Lv_rowBits (ho : okLv t) (hi : isLv G t page down L) (hn : L.flatten.length ≤ 30) : f_Lv_rowBits [.ref t] (hp G) = some (some (.int (rb L)), hp G) := by
  rw [e_Lv_rowBits t _ (ob_Lv G ho)]
  refine for_list L.flatten (fun f i a => mm_run p_Lv_rowBits f 4 [.ref t, .int a, .int (nI i)] [] (hp G)) (fun a c => a ||| sbit (c % 32)) (fun a => some (some (.int a), hp G)) (fun f i a hil => ?_) (fun f a => ?_) 0 (fu_lt (by omega))
  · simp (disch := omega) only [e_Lv_rowBits_4, gg_Lv_entries _ ho, gg_Lv_entry _ ho, rr_Lv_entry _ ho, hi.1.1, hi.2.1 i hil, Option.bind_some, n_lt, sh_row, nI_1]
    rw [if_pos hil]
  · simp (disch := omega) only [e_Lv_rowBits_4, gg_Lv_entries _ ho, hi.1.1, Option.bind_some, n_lt]
    rw [if_neg (by omega)]
theorem s_Lv_underHalf (ho : okLv t) (hi : isLv G t page down L) (hk : okL page L) : f_Lv_underHalf [.ref t] (hp G) = some (some (.int (nI (L.filter (fun l => decide (2 * l.length < page))).length)), hp G) := by
  have hln := hk.len
  have hp8 := hk.1
  rw [e_Lv_underHalf t _ (ob_Lv G ho)]
  have h := for_list L (fun f i a => mm_run p_Lv_underHalf f 4 [.ref t, .int (nI a), .int (nI i)] [] (hp G)) (fun a l => a + (if decide (2 * l.length < page) then 1 else 0)) (fun a => some (some (.int (nI a)), hp G)) (fun f i a hil => ?_) (fun f a => ?_) 0 (f := mm_fu) (fu_lt (by omega))
  · rw [foldl_count, Nat.zero_add] at h
    exact h
  · have hz : L[i].length ≤ page := (hk.2.2.1 _ (List.getElem_mem hil)).2
    simp (disch := omega) only [e_Lv_underHalf_4, gg_Lv_leaves _ ho, gg_Lv_size _ ho, gg_Lv_page _ ho, rr_Lv_size _ ho, hi.1.2.1, hi.1.2.2.1, hi.2.2 i hil, Option.bind_some, n_lit, n_lt, n_mul, nI_add]
    rw [if_pos hil]
    by_cases hc : 2 * L[i].length < page <;> simp [hc]
  · simp (disch := omega) only [e_Lv_underHalf_4, gg_Lv_leaves _ ho, hi.1.2.1, Option.bind_some, n_lt]
    rw [if_neg (by omega)]
theorem s_Lv_firstOf (ho : okLv t) (hi : isLv G t page down L) (hln : L.length ≤ 30) {k : Nat} (hk : k ≤ L.length) : f_Lv_firstOf [.ref t, .int (nI k)] (hp G) = some (some (.int (nI (L.take k).flatten.length)), hp G) := by
  have htl : (L.take k).length = k := by rw [List.length_take]; omega
  rw [e_Lv_firstOf t _ _ (ob_Lv G ho)]
  have h := for_list (L.take k) (fun f i a => mm_run p_Lv_firstOf f 4 [.ref t, .int (nI k), .int (nI a), .int (nI i)] [] (hp G)) (fun a l => a + l.length) (fun a => some (some (.int (nI a)), hp G)) (fun f i a hil => ?_) (fun f a => ?_) 0 (f := mm_fu) (fu_lt (by omega))
  · have e : ∀ (l : LL) (n : Nat), l.foldl (fun a l => a + l.length) n = n + l.flatten.length := by
      intro l
      induction l with
      | nil => intro n; rfl
      | cons x l ih => intro n; rw [List.foldl_cons, ih, List.flatten_cons, List.length_append]; omega
    rw [e, Nat.zero_add] at h
    exact h
  · rw [htl] at hil
    simp (disch := omega) only [e_Lv_firstOf_4, gg_Lv_leaves _ ho, gg_Lv_size _ ho, rr_Lv_size _ ho, hi.1.2.1, hi.2.2 i (by omega), Option.bind_some, n_lit, n_lt, nI_add]
    rw [if_pos hil, if_pos (by omega), List.getElem_take]
  · rw [htl]
    simp (disch := omega) only [e_Lv_firstOf_4, n_lt]
    rw [if_neg (by omega)]
end LVS
