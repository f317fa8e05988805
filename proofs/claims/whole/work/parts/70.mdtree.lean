/-! THE REFERENCE: an index is one row of entries with a sign where a leaf begins -/
def fl1 : List Nat → List Nat
  | [] => []
  | c :: cs => (2 * c + 1) :: cs.map (2 * ·)
def fl (L : LL) : List Nat := (L.map fl1).flatten
theorem fl_app (A B : LL) : fl (A ++ B) = fl A ++ fl B := by unfold fl; rw [List.map_append, List.flatten_append]
theorem fl_cons (l : List Nat) (B : LL) : fl (l :: B) = fl1 l ++ fl B := rfl
theorem fl1_len (l : List Nat) : (fl1 l).length = l.length := by cases l <;> simp [fl1]
theorem fl1_code (l : List Nat) : (fl1 l).map (· / 2) = l := by
  cases l with
  | nil => rfl
  | cons c cs =>
    simp only [fl1, List.map_cons, List.map_map]
    rw [show (2 * c + 1) / 2 = c by omega]
    congr 1
    rw [show ((fun x => x / 2) ∘ fun x => 2 * x) = id from funext (fun x => by simp [Function.comp])]
    simp
theorem fl_len : ∀ (L : LL), (fl L).length = L.flatten.length
  | [] => rfl
  | l :: L => by rw [fl_cons, List.length_append, fl1_len, fl_len L, List.flatten_cons, List.length_append]
theorem fl_code : ∀ (L : LL), (fl L).map (· / 2) = L.flatten
  | [] => rfl
  | l :: L => by rw [fl_cons, List.map_append, fl1_code, fl_code L, List.flatten_cons]
theorem fl1_odd (c : Nat) (cs : List Nat) : ((fl1 (c :: cs)).filter (fun x => x % 2 == 1)).length = 1 := by
  simp only [fl1, List.filter_cons]
  rw [if_pos (by simp)]
  have : (cs.map (2 * ·)).filter (fun x => x % 2 == 1) = [] := by
    rw [List.filter_eq_nil_iff]
    intro x hx
    obtain ⟨y, -, rfl⟩ := List.mem_map.mp hx
    simp
  rw [this]
  rfl
theorem fl_odd : ∀ {L : LL}, (∀ l ∈ L, l ≠ []) → ((fl L).filter (fun x => x % 2 == 1)).length = L.length
  | [], _ => rfl
  | l :: L, h => by
    rw [fl_cons, List.filter_append, List.length_append, fl_odd (fun x hx => h x (List.mem_cons_of_mem _ hx))]
    cases l with
    | nil => exact absurd rfl (h [] List.mem_cons_self)
    | cons c cs => rw [fl1_odd, List.length_cons]; omega
theorem fl_at {L : LL} {k : Nat} (h : k < (fl L).length) : (fl L)[k] / 2 = L.flatten[k]'(by rw [← fl_len]; exact h) := by
  have h1 : ((fl L).map (· / 2))[k]? = L.flatten[k]? := by rw [fl_code]
  rw [List.getElem?_eq_getElem (by simpa using h), List.getElem?_eq_getElem (by rw [← fl_len]; exact h)] at h1
  simpa using h1
theorem fl_lt {page : Nat} {L : LL} (hk : okL page L) {k : Nat} (h : k < (fl L).length) : (fl L)[k] < 64000 := by
  have h1 := fl_at h
  have h2 := (hk.2.2.2.1 _ (List.getElem_mem (show k < L.flatten.length by rw [← fl_len]; exact h))).1
  omega
/-- the sign below which a place lies; the next sign behind it -/
def lowM (m : List Nat) : Nat → Nat
  | 0 => 0
  | k + 1 => if m.getD (k + 1) 0 % 2 = 1 then k + 1 else lowM m k
def highM (m : List Nat) (k : Nat) : Nat := k + 1 + ((m.drop (k + 1)).takeWhile (fun x => x % 2 == 0)).length
theorem fl1_even (c : Nat) (cs : List Nat) {q : Nat} (h : q < cs.length) : (fl1 (c :: cs))[q + 1]'(by rw [fl1_len]; simpa using h) % 2 = 0 := by
  simp [fl1]
theorem low_fl {A B : LL} {l : List Nat} : ∀ {q : Nat}, q < l.length → lowM (fl (A ++ l :: B)) (A.flatten.length + q) = A.flatten.length := by
  have hm : fl (A ++ l :: B) = fl A ++ (fl1 l ++ fl B) := by rw [fl_app, fl_cons]
  intro q
  induction q with
  | zero =>
    intro h
    cases hA : A.flatten.length with
    | zero => rfl
    | succ n =>
      rw [Nat.add_zero, lowM]
      have : (fl (A ++ l :: B)).getD (n + 1) 0 % 2 = 1 := by
        rw [hm, List.getD_eq_getElem?_getD, List.getElem?_append_right (by rw [fl_len]; omega), fl_len, hA, Nat.sub_self]
        cases l with
        | nil => simp at h
        | cons c cs => simp [fl1]
      rw [if_pos this]
  | succ q ih =>
    intro h
    rw [← Nat.add_assoc, lowM]
    have : ¬ (fl (A ++ l :: B)).getD (A.flatten.length + q + 1) 0 % 2 = 1 := by
      rw [hm, List.getD_eq_getElem?_getD, List.getElem?_append_right (by rw [fl_len]; omega), fl_len, show A.flatten.length + q + 1 - A.flatten.length = q + 1 by omega, List.getElem?_append_left (by rw [fl1_len]; omega)]
      cases l with
      | nil => simp at h
      | cons c cs =>
        have hq : q < cs.length := by simpa using h
        rw [List.getElem?_eq_getElem (by rw [fl1_len]; simpa using h), Option.getD_some]
        have := fl1_even c cs hq
        omega
    rw [if_neg this]
    exact ih (by omega)
theorem tw_all {p : Nat → Bool} : ∀ {l m : List Nat}, (∀ x ∈ l, p x = true) → (∀ y ys, m = y :: ys → p y = false) → ((l ++ m).takeWhile p).length = l.length
  | [], [], _, _ => rfl
  | [], y :: m, _, h => by rw [List.nil_append, List.takeWhile_cons, h y m rfl]; rfl
  | x :: l, m, h1, h2 => by
    rw [List.cons_append, List.takeWhile_cons, h1 x List.mem_cons_self]
    simp only [if_true, List.length_cons]
    rw [tw_all (fun y hy => h1 y (List.mem_cons_of_mem _ hy)) h2]
theorem high_fl {A B : LL} {l : List Nat} (hB : ∀ x ∈ B, x ≠ []) {q : Nat} (h : q < l.length) : highM (fl (A ++ l :: B)) (A.flatten.length + q) = A.flatten.length + l.length := by
  have hm : fl (A ++ l :: B) = fl A ++ (fl1 l ++ fl B) := by rw [fl_app, fl_cons]
  unfold highM
  have hd : (fl (A ++ l :: B)).drop (A.flatten.length + q + 1) = (fl1 l).drop (q + 1) ++ fl B := by
    rw [hm, List.drop_append, fl_len, List.drop_of_length_le (by rw [fl_len]; omega), List.nil_append, show A.flatten.length + q + 1 - A.flatten.length = q + 1 by omega, List.drop_append, fl1_len, show q + 1 - l.length = 0 by omega, List.drop_zero]
  rw [hd, tw_all (fun x hx => ?_) (fun y ys e => ?_)]
  · rw [List.length_drop, fl1_len]; omega
  · obtain ⟨j, hj, e⟩ := List.mem_iff_getElem.mp hx
    rw [List.getElem_drop] at e
    rw [List.length_drop, fl1_len] at hj
    cases l with
    | nil => simp at h
    | cons c cs =>
      have hq : q + j < cs.length := by simp only [List.length_cons] at hj; omega
      have h1 := fl1_even c cs hq
      have h2 : (fl1 (c :: cs))[q + 1 + j]'(by rw [fl1_len, List.length_cons]; omega) = (fl1 (c :: cs))[q + j + 1]'(by rw [fl1_len, List.length_cons]; omega) := by
        congr 1; omega
      rw [← e, h2, h1]
      rfl
  · cases B with
    | nil => exact absurd e (by simp [fl])
    | cons b B =>
      rw [fl_cons] at e
      cases b with
      | nil => exact absurd rfl (hB [] List.mem_cons_self)
      | cons c cs =>
        have : y = 2 * c + 1 := by
          have := congrArg (fun l => l.headD 0) e
          simpa [fl1] using this.symm
        rw [this]
        simp
/-! what the reference's small methods answer -/
theorem n_half {n : Nat} (h : n < 2147483648) : nI n >>> ((1 : Int32) &&& 31) = nI (n / 2) := by
  apply b_ext
  intro i hi
  have := b_sshr 1 (by decide) (nI n) hi
  rw [show ((1 : Int32) &&& 31) = nI 1 &&& 31 from rfl, this, bt_nI _ hi]
  by_cases e : 1 + i < 32
  · rw [if_pos e, bt_nI _ e, Nat.add_comm, Nat.testBit_succ]
  · rw [if_neg e, bt_nI _ (by decide), show i = 31 by omega, Nat.testBit_lt_two_pow (by omega), Nat.testBit_lt_two_pow (by omega)]
def isM (G : GG) (s : Nat) (m : List Nat) : Prop := G.1 628 s = nI m.length ∧ ∀ k (h : k < m.length), G.1 628 (s + 1 + k) = nI m[k]
def okM (m : List Nat) : Prop := m.length ≤ 30 ∧ ∀ k (h : k < m.length), m[k] < 64000
theorem okM_fl {page : Nat} {L : LL} (hk : okL page L) : okM (fl L) := ⟨by rw [fl_len]; exact hk.2.1, fun _ h => fl_lt hk h⟩
theorem i_start (b i : Nat) : (nI b + 359) + (31 * nI i) = nI (b + 359 + 31 * i) := by
  rw [show (359 : Int32) = nI 359 from rfl, show (31 : Int32) = nI 31 from rfl, n_mul, nI_add, nI_add]
theorem i_add (a k : Nat) : nI a + nI k = nI (a + k) := nI_add a k
section MDT
variable {G : GG} {b i : Nat} {m : List Nat}
theorem s_Md_startOf : f_Md_startOf [.ref 618, .int (nI b), .int (nI i)] (hp G) = some (some (.int (nI (b + 359 + 31 * i))), hp G) := by
  rw [e_Md_startOf 618 _ _ _ (ob_Md G), i_start]
theorem s_Md_entries (hb : b ≤ 9252) (hi : i < 4) (h : isM G (b + 359 + 31 * i) m) : f_Md_entries [.ref 618, .int (nI b), .int (nI i)] (hp G) = some (some (.int (nI m.length)), hp G) := by
  rw [e_Md_entries 618 _ _ _ (ob_Md G), gg_Md_state, Option.bind_some, s_Md_startOf, ci_some, rr_Md_state _ (by omega), Option.bind_some, h.1]
theorem s_cell (hb : b ≤ 9252) (hi : i < 4) (h : isM G (b + 359 + 31 * i) m) (hk : okM m) {k : Nat} (hl : k < m.length) : mm_li (hp G) 628 ((nI (b + 359 + 31 * i) + 1) + nI k) = some (nI m[k]) := by
  have := hk.1
  rw [show nI (b + 359 + 31 * i) + 1 = nI (b + 359 + 31 * i + 1) from nI_add _ 1, i_add, rr_Md_state _ (by omega), h.2 k hl]
theorem s_Md_isFirst (hb : b ≤ 9252) (hi : i < 4) (h : isM G (b + 359 + 31 * i) m) (hk : okM m) {k : Nat} (hl : k < m.length) : f_Md_isFirst [.ref 618, .int (nI b), .int (nI i), .int (nI k)] (hp G) = some (some (.int (b2 (m[k] % 2 == 1))), hp G) := by
  have := hk.2 k hl
  rw [e_Md_isFirst 618 _ _ _ _ (ob_Md G), gg_Md_state, Option.bind_some, s_Md_startOf, ci_some, s_cell hb hi h hk hl, Option.bind_some, show mm_rem (nI m[k]) 2 = nI (m[k] % 2) from n_rem (b := 2) (by omega) (by decide) (by decide)]
  by_cases e : m[k] % 2 = 1
  · rw [if_pos (show nI (m[k] % 2) = (1 : Int32) from lq (n := 1) e), e]; rfl
  · rw [if_neg (show ¬ nI (m[k] % 2) = (1 : Int32) from ln (n := 1) e (by omega) (by decide)), show m[k] % 2 = 0 by omega]; rfl
theorem s_Md_entryAt (hb : b ≤ 9252) (hi : i < 4) (h : isM G (b + 359 + 31 * i) m) (hk : okM m) {k : Nat} (hl : k < m.length) : f_Md_entryAt [.ref 618, .int (nI b), .int (nI i), .int (nI k)] (hp G) = some (some (.int (nI (m[k] / 2))), hp G) := by
  have := hk.2 k hl
  rw [e_Md_entryAt 618 _ _ _ _ (ob_Md G), gg_Md_state, Option.bind_some, s_Md_startOf, ci_some, s_cell hb hi h hk hl, Option.bind_some, n_half (by omega)]
theorem s_Md_rowAt (hb : b ≤ 9252) (hi : i < 4) (h : isM G (b + 359 + 31 * i) m) (hk : okM m) {k : Nat} (hl : k < m.length) : f_Md_rowAt [.ref 618, .int (nI b), .int (nI i), .int (nI k)] (hp G) = some (some (.int (nI (m[k] / 2 % 32))), hp G) := by
  have := hk.2 k hl
  rw [e_Md_rowAt 618 _ _ _ _ (ob_Md G), s_Md_entryAt hb hi h hk hl, ci_some, show mm_rem (nI (m[k] / 2)) 32 = nI (m[k] / 2 % 32) from n_rem (b := 32) (by omega) (by decide) (by decide)]
theorem s_Md_leaves (hb : b ≤ 9252) (hi : i < 4) (h : isM G (b + 359 + 31 * i) m) (hk : okM m) : f_Md_leaves [.ref 618, .int (nI b), .int (nI i)] (hp G) = some (some (.int (nI (m.filter (fun x => x % 2 == 1)).length)), hp G) := by
  have h30 := hk.1
  rw [e_Md_leaves 618 _ _ _ (ob_Md G)]
  have := for_list m (fun f k a => mm_run p_Md_leaves f 5 [.ref 618, .int (nI b), .int (nI i), .int (nI a), .int (nI k)] [] (hp G)) (fun a x => a + (if (x % 2 == 1) then 1 else 0)) (fun a => some (some (.int (nI a)), hp G)) (fun f k a hl => by
    show mm_run _ _ _ _ _ _ = mm_run _ _ _ _ _ _
    rw [e_Md_leaves_5, s_Md_entries hb hi h, ci_some, if_pos (lp hl (by omega)), s_Md_isFirst hb hi h hk hl, ci_some, show nI k + 1 = nI (k + 1) from nI_add k 1]
    cases m[k] % 2 == 1
    · rw [if_pos (by decide), show nI a + 0 = nI (a + 0) from nI_add a 0]; rfl
    · rw [if_neg (by decide), show nI a + 1 = nI (a + 1) from nI_add a 1]; rfl) (fun f a => by
    show mm_run _ _ _ _ _ _ = _
    rw [e_Md_leaves_5, s_Md_entries hb hi h, ci_some, if_neg (lm (Nat.le_refl _) (by omega))]) 0 (f := mm_fu) (fu_lt (by omega))
  rw [foldl_count, Nat.zero_add] at this
  exact this
theorem s_Md_page {page : Nat} (hp0 : G.1 624 0 = nI page) : f_Md_page [.ref 618] (hp G) = some (some (.int (nI page)), hp G) := by
  rw [e_Md_page 618 _ (ob_Md G), gg_Md_tables, Option.bind_some, show mm_li (hp G) 624 0 = _ from rr_Md_tables G (i := 0) (by decide), Option.bind_some, hp0]
theorem s_Md_height {page : Nat} (hp0 : G.1 624 0 = nI page) (hpg : 2 ≤ page ∧ page ≤ 8) (hb : b ≤ 9252) (hi : i < 4) (h : isM G (b + 359 + 31 * i) m) (hk : okM m) : f_Md_height [.ref 618, .int (nI b), .int (nI i)] (hp G) = some (some (.int (nI (hg page (m.filter (fun x => x % 2 == 1)).length))), hp G) := by
  have h30 := hk.1
  have hle : (m.filter (fun x => x % 2 == 1)).length ≤ m.length := List.length_filter_le _ _
  rw [e_Md_height 618 _ _ _ (ob_Md G), s_Md_leaves hb hi h hk, ci_some]
  have key : ∀ (n : Nat) (f a : Nat), n ≤ 30 → n < f → mm_run p_Md_height f 10 [.ref 618, .int (nI n), .int (nI a)] [] (hp G) = some (some (.int (nI (a + hg page n))), hp G) := by
    intro n
    induction n using Nat.strongRecOn with
    | ind n ih =>
      intro f a hn hf
      obtain ⟨f, rfl⟩ : ∃ g, f = g + 1 := ⟨f - 1, by omega⟩
      rw [e_Md_height_10]
      by_cases h1 : 1 < n
      · have hless := hg_less hpg.1 h1
        rw [if_pos (show (1 : Int32) < nI n from lp (a := 1) h1 (by omega)), s_Md_page hp0, ci_some, s_Md_page hp0, ci_some, if_neg (show ¬ nI page = (0 : Int32) from ln (n := 0) (by omega) (by omega) (by decide)), nI_add, show nI (n + page) - 1 = nI (n + page - 1) from n_sub (b := 1) (by omega), n_div (by omega) (by omega) (by omega), show nI a + 1 = nI (a + 1) from nI_add a 1, ih _ hless f (a + 1) (by omega) (by omega), hg_step hpg.1 h1, Nat.add_assoc]
      · rw [if_neg (show ¬ (1 : Int32) < nI n from lm (a := 1) (by omega) (by omega)), hg_end h1, Nat.add_zero]
  rw [show mm_run p_Md_height mm_fu 10 [.ref 618, .int (nI (m.filter (fun x => x % 2 == 1)).length), .int 0] [] (hp G) = _ from key _ mm_fu 0 (by omega) (fu_lt (by omega)), Nat.zero_add]
theorem s_Md_placeFor (hb : b ≤ 9252) (hi : i < 4) (h : isM G (b + 359 + 31 * i) m) (hk : okM m) {e : Nat} (he : e < 2147483648) : f_Md_placeFor [.ref 618, .int (nI b), .int (nI i), .int (nI e)] (hp G) = some (some (.int (nI (m.filter (fun x => decide (x / 2 < e))).length)), hp G) := by
  have h30 := hk.1
  rw [e_Md_placeFor 618 _ _ _ _ (ob_Md G)]
  have := for_list m (fun f k a => mm_run p_Md_placeFor f 6 [.ref 618, .int (nI b), .int (nI i), .int (nI e), .int (nI a), .int (nI k)] [] (hp G)) (fun a x => a + (if decide (x / 2 < e) then 1 else 0)) (fun a => some (some (.int (nI a)), hp G)) (fun f k a hl => by
    have := hk.2 k hl
    show mm_run _ _ _ _ _ _ = mm_run _ _ _ _ _ _
    rw [e_Md_placeFor_6, s_Md_entries hb hi h, ci_some, if_pos (lp hl (by omega)), s_Md_entryAt hb hi h hk hl, ci_some, show nI k + 1 = nI (k + 1) from nI_add k 1]
    by_cases hlt : m[k] / 2 < e
    · rw [if_pos (lp hlt he), show nI a + 1 = nI (a + 1) from nI_add a 1, decide_eq_true hlt]; rfl
    · rw [if_neg (lm (by omega) (by omega)), show nI a + 0 = nI (a + 0) from nI_add a 0, decide_eq_false hlt]; rfl) (fun f a => by
    show mm_run _ _ _ _ _ _ = _
    rw [e_Md_placeFor_6, s_Md_entries hb hi h, ci_some, if_neg (lm (Nat.le_refl _) (by omega))]) 0 (f := mm_fu) (fu_lt (by omega))
  rw [foldl_count, Nat.zero_add] at this
  exact this
/-- the fields low and high set -/
def lhG (G : GG) (x y : Nat) : GG := gsi (gsi G 618 20 (nI x)) 618 21 (nI y)
theorem gsi_gsi (G : GG) (n k : Nat) (v w : Int32) : gsi (gsi G n k v) n k w = gsi G n k w := by
  unfold gsi
  have : gsa (gsa G n (upd (G.1 n) k v)) n (upd ((gsa G n (upd (G.1 n) k v)).1 n) k w) = gsa G n (upd (G.1 n) k w) := by
    unfold gsa
    refine Prod.ext ?_ rfl
    funext n'
    dsimp only
    by_cases e : n' = n
    · rw [if_pos e, if_pos e, if_pos rfl]
      funext j
      unfold upd
      split <;> rfl
    · rw [if_neg e, if_neg e, if_neg e]
  exact this
theorem isM.lo (h : isM G (b + 359 + 31 * i) m) (k : Nat) (v : Int32) : isM (gsi G 618 k v) (b + 359 + 31 * i) m := by
  unfold isM
  rw [gsi_i, if_neg (by decide)]
  exact h
theorem s_Md_leafAround (hb : b ≤ 9252) (hi : i < 4) (h : isM G (b + 359 + 31 * i) m) (hk : okM m) {k : Nat} (hl : k < m.length) : f_Md_leafAround [.ref 618, .int (nI b), .int (nI i), .int (nI k)] (hp G) = some (none, hp (lhG G (lowM m k) (highM m k))) := by
  have h30 := hk.1
  rw [e_Md_leafAround 618 _ _ _ _ (ob_Md G), ww_Md_low, Option.bind_some]
  have up : ∀ (n j f : Nat) (G1 : GG), G1 = gsi G 618 20 (nI (lowM m k)) → n + j = m.length → n < f → mm_run p_Md_leafAround f 45 [.ref 618, .int (nI b), .int (nI i)] [] (hp (gsi G1 618 21 (nI j))) = some (none, hp (gsi G1 618 21 (nI (j + ((m.drop j).takeWhile (fun x => x % 2 == 0)).length)))) := by
    intro n
    induction n with
    | zero =>
      intro j f G1 e hj hf
      obtain ⟨f, rfl⟩ : ∃ g, f = g + 1 := ⟨f - 1, by omega⟩
      have hM : isM (gsi G1 618 21 (nI j)) (b + 359 + 31 * i) m := by rw [e]; exact (h.lo _ _).lo _ _
      rw [e_Md_leafAround_45, gg_Md_high, Option.bind_some, gsi_i, if_pos rfl, upd_at, s_Md_entries hb hi hM, ci_some, if_neg (lm (by omega) (by omega)), List.drop_of_length_le (by omega)]
      rfl
    | succ n ih =>
      intro j f G1 e hj hf
      obtain ⟨f, rfl⟩ : ∃ g, f = g + 1 := ⟨f - 1, by omega⟩
      have hM : isM (gsi G1 618 21 (nI j)) (b + 359 + 31 * i) m := by rw [e]; exact (h.lo _ _).lo _ _
      have hjl : j < m.length := by omega
      rw [e_Md_leafAround_45, gg_Md_high, Option.bind_some, gsi_i, if_pos rfl, upd_at, s_Md_entries hb hi hM, ci_some, if_pos (lp hjl (by omega)), gg_Md_high, Option.bind_some, gsi_i, if_pos rfl, upd_at, s_Md_isFirst hb hi hM hk hjl, ci_some, drop_cons hjl, List.takeWhile_cons]
      by_cases eo : m[j] % 2 = 1
      · rw [show (m[j] % 2 == 1) = true by simp [eo], if_neg (by decide), show (m[j] % 2 == 0) = false by simp [eo]]
        rfl
      · rw [show (m[j] % 2 == 1) = false by simp [eo], if_pos (by decide), gg_Md_high, Option.bind_some, gsi_i, if_pos rfl, upd_at, ww_Md_high, Option.bind_some, gsi_gsi, show nI j + 1 = nI (j + 1) from nI_add j 1, ih (j + 1) f G1 e (by omega) (by omega), show (m[j] % 2 == 0) = true by simp; omega]
        simp only [if_true, List.length_cons]
        rw [show j + 1 + ((m.drop (j + 1)).takeWhile (fun x => x % 2 == 0)).length = j + (((m.drop (j + 1)).takeWhile (fun x => x % 2 == 0)).length + 1) by omega]
  have down : ∀ (j f : Nat), j ≤ k → lowM m j = lowM m k → j + 40 < f → mm_run p_Md_leafAround f 5 [.ref 618, .int (nI b), .int (nI i), .int (nI k)] [] (hp (gsi G 618 20 (nI j))) = some (none, hp (lhG G (lowM m k) (highM m k))) := by
    intro j
    induction j with
    | zero =>
      intro f hjk e0 hf
      obtain ⟨f, rfl⟩ : ∃ g, f = g + 1 := ⟨f - 1, by omega⟩
      have e0' : lowM m k = 0 := e0.symm
      rw [e_Md_leafAround_5, gg_Md_low, Option.bind_some, gsi_i, if_pos rfl, upd_at, if_neg (show ¬ (0 : Int32) < nI 0 by decide), ww_Md_high, Option.bind_some, show nI k + 1 = nI (k + 1) from nI_add k 1, up (m.length - (k + 1)) (k + 1) f _ (by rw [e0']) (by omega) (by omega)]
      unfold lhG highM
      rw [e0']
    | succ j ih =>
      intro f hjk e0 hf
      obtain ⟨f, rfl⟩ : ∃ g, f = g + 1 := ⟨f - 1, by omega⟩
      have hM : isM (gsi G 618 20 (nI (j + 1))) (b + 359 + 31 * i) m := h.lo _ _
      have hjl : j + 1 < m.length := by omega
      rw [e_Md_leafAround_5, gg_Md_low, Option.bind_some, gsi_i, if_pos rfl, upd_at, if_pos (show (0 : Int32) < nI (j + 1) from lp (a := 0) (by omega) (by omega)), Option.bind_some, s_Md_isFirst hb hi hM hk hjl, ci_some]
      have hg0 : m.getD (j + 1) 0 = m[j + 1] := by rw [List.getD_eq_getElem?_getD, List.getElem?_eq_getElem hjl]; rfl
      have e0' : (if m[j + 1] % 2 = 1 then j + 1 else lowM m j) = lowM m k := by rw [← e0, lowM, hg0]
      clear e0
      by_cases eo : m[j + 1] % 2 = 1
      · rw [if_pos eo] at e0'
        rw [show (m[j + 1] % 2 == 1) = true by simp [eo], if_neg (by decide), ww_Md_high, Option.bind_some, show nI k + 1 = nI (k + 1) from nI_add k 1, up (m.length - (k + 1)) (k + 1) f _ (by rw [e0']) (by omega) (by omega)]
        unfold lhG highM
        rw [e0']
      · rw [if_neg eo] at e0'
        rw [show (m[j + 1] % 2 == 1) = false by simp [eo], if_pos (by decide), gg_Md_low, Option.bind_some, gsi_i, if_pos rfl, upd_at, ww_Md_low, Option.bind_some, gsi_gsi, show nI (j + 1) - 1 = nI j from n_sub (b := 1) (by omega)]
        exact ih f (by omega) e0' (by omega)
  exact down k mm_fu (Nat.le_refl _) rfl (fu_lt (by omega))
end MDT
