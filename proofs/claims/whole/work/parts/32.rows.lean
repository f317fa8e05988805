/-! ROWS (the class) -/
def isRw (G : GG) (t : Nat) (V : Nat → Nat → Nat) (m : Nat) (d c : Int32) : Prop := (G.1 t 1 = nI m ∧ G.1 t 2 = d ∧ G.1 t 3 = c) ∧ ∀ r k, r < m → k < 3 → G.1 (t + 1) (r * 3 + k) = nI (V r k)
def okR (V : Nat → Nat → Nat) (m : Nat) (d c : Int32) : Prop := m ≤ 30 ∧ (∀ r k, r < m → k < 3 → V r k ≤ 999) ∧ (∀ r, bt d r = true → r < m) ∧ ∀ r, bt c r = true → bt d r = true
def visB (d c : Int32) : Int32 := d &&& (c ^^^ (-1))
/-- those of some that have a value in a column -/
def havS (V : Nat → Nat → Nat) (s : Int32) (k v : Nat) : Int32 := msk (fun r => bt s r && V r k == v) 30
def b2 (b : Bool) : Int32 := if b then 1 else 0
theorem b2_0 (b : Bool) : (b2 b = 0) = (b = false) := i01 b
theorem bt_vis (d c : Int32) {r : Nat} (hr : r < 32) : bt (visB d c) r = (bt d r && !bt c r) := by unfold visB; rw [b_and, bt_not _ hr]
theorem bt_hav (V : Nat → Nat → Nat) (s : Int32) (k v : Nat) {r : Nat} (hr : r < 32) : bt (havS V s k v) r = (decide (r < 30) && (bt s r && V r k == v)) := bt_msk _ _ (by omega) r hr
/-- row number, column number for value -/
def setV (V : Nat → Nat → Nat) (r k v : Nat) : Nat → Nat → Nat := fun r' k' => if r' = r ∧ k' = k then v else V r' k'
theorem lp {a n : Nat} (h : a < n) (hn : n < 2147483648) : nI a < nI n := by rw [n_lt (by omega) hn]; exact h
theorem lm {a n : Nat} (h : n ≤ a) (ha : a < 2147483648) : ¬ nI a < nI n := by rw [n_lt ha (by omega)]; omega
section RWS
variable {G : GG} {t m : Nat} {V : Nat → Nat → Nat} {d c : Int32}
theorem s_Rw_hasCome_neg (ho : okRw t) {x : Int32} (hx : x < 0) : f_Rw_hasCome [.ref t, .int x] (hp G) = some (some (.int (b2 false)), hp G) := by
  rw [e_Rw_hasCome t _ _ (ob_Rw G ho), if_pos hx]
  rfl
theorem s_Rw_hasCome0 (ho : okRw t) (h1 : G.1 t 1 = nI m) (hm : m ≤ 30) {r : Nat} (hr : r < 2147483648) : f_Rw_hasCome [.ref t, .int (nI r)] (hp G) = some (some (.int (b2 (decide (r < m)))), hp G) := by
  rw [e_Rw_hasCome t _ _ (ob_Rw G ho), if_neg (n_nneg hr), gg_Rw_come _ ho, Option.bind_some, h1]
  by_cases h : r < m
  · rw [if_pos (lp h (by omega)), if_pos (show nI r < (30 : Int32) from lp (n := 30) (by omega) (by omega))]
    simp [h, b2]
  · rw [if_neg (lm (by omega) hr)]
    simp [h, b2]
theorem s_Rw_hasCome (ho : okRw t) (hi : isRw G t V m d c) (hk : okR V m d c) {r : Nat} (hr : r < 2147483648) : f_Rw_hasCome [.ref t, .int (nI r)] (hp G) = some (some (.int (b2 (decide (r < m)))), hp G) := s_Rw_hasCome0 ho hi.1.1 hk.1 hr
theorem s_Rw_visible (ho : okRw t) (hi : isRw G t V m d c) : f_Rw_visible [.ref t] (hp G) = some (some (.int (visB d c)), hp G) := by
  rw [e_Rw_visible t _ (ob_Rw G ho)]
  simp only [gg_Rw_there _ ho, gg_Rw_chosen _ ho, hi.1.2.1, hi.1.2.2, Option.bind_some]
  rfl
theorem s_Rw_isVisible_neg (ho : okRw t) {x : Int32} (hx : x < 0) : f_Rw_isVisible [.ref t, .int x] (hp G) = some (some (.int (b2 false)), hp G) := by
  rw [e_Rw_isVisible t _ _ (ob_Rw G ho), s_Rw_hasCome_neg ho hx, ci_some, if_pos (by decide)]
  rfl
theorem okR.vis (hk : okR V m d c) {r : Nat} (h : bt (visB d c) r = true) : r < m := by
  have hr : r < 32 := by
    rcases Nat.lt_or_ge r 32 with q | q
    · exact q
    · rw [b_big q] at h; exact absurd h (by decide)
  rw [bt_vis _ _ hr] at h
  simp only [Bool.and_eq_true] at h
  exact hk.2.2.1 r h.1
theorem s_Rw_isVisible (ho : okRw t) (hi : isRw G t V m d c) (hk : okR V m d c) {r : Nat} (hr : r < 2147483648) : f_Rw_isVisible [.ref t, .int (nI r)] (hp G) = some (some (.int (b2 (bt (visB d c) r))), hp G) := by
  have hm := hk.1
  rw [e_Rw_isVisible t _ _ (ob_Rw G ho), s_Rw_hasCome ho hi hk hr, ci_some]
  by_cases h : r < m
  · rw [if_neg (by simp [b2, h])]
    rw [s_Rw_visible ho hi, ci_some, bt_shr1 _ (by omega)]
    cases bt (visB d c) r
    · rw [if_pos (by decide)]; rfl
    · rw [if_neg (by decide)]; rfl
  · rw [if_pos (by simp [b2, h])]
    have : bt (visB d c) r = false := by
      cases q : bt (visB d c) r
      · rfl
      · exact absurd (hk.vis q) h
    rw [this]
    rfl
theorem s_Rw_valueOf_neg (ho : okRw t) {x y : Int32} (hx : x < 0) : f_Rw_valueOf [.ref t, .int x, .int y] (hp G) = some (some (.int (-1)), hp G) := by
  rw [e_Rw_valueOf t _ _ _ (ob_Rw G ho), if_pos hx]
theorem s_Rw_valueOf_out (ho : okRw t) (hi : isRw G t V m d c) (hk : okR V m d c) {r : Nat} {y : Int32} (hr : r < 2147483648) (h : m ≤ r) : f_Rw_valueOf [.ref t, .int (nI r), .int y] (hp G) = some (some (.int (-1)), hp G) := by
  have hm := hk.1
  rw [e_Rw_valueOf t _ _ _ (ob_Rw G ho), if_neg (n_nneg hr)]
  simp (disch := omega) only [gg_Rw_come _ ho, hi.1.1, Option.bind_some, n_lt]
  rw [if_neg (by omega)]
theorem s_Rw_valueOf_col (ho : okRw t) (hi : isRw G t V m d c) (hk : okR V m d c) {r : Nat} {y : Int32} (hr : r < 2147483648) (hy : y < 0 ∨ ∃ k, 3 ≤ k ∧ k < 2147483648 ∧ y = nI k) : f_Rw_valueOf [.ref t, .int (nI r), .int y] (hp G) = some (some (.int (-1)), hp G) := by
  have hm := hk.1
  by_cases h : m ≤ r
  · exact s_Rw_valueOf_out ho hi hk hr h
  · rw [e_Rw_valueOf t _ _ _ (ob_Rw G ho), if_neg (n_nneg hr), gg_Rw_come _ ho, Option.bind_some, hi.1.1, if_pos (lp (by omega) (by omega)), if_pos (show nI r < (30 : Int32) from lp (n := 30) (by omega) (by omega))]
    rcases hy with hy | ⟨k, h3, hk2, rfl⟩
    · rw [if_pos hy]
    · rw [if_neg (n_nneg hk2), if_neg (show ¬ nI k < (3 : Int32) from lm (n := 3) h3 hk2)]
theorem s_Rw_valueOf (ho : okRw t) (hi : isRw G t V m d c) (hk : okR V m d c) {r k : Nat} (hr : r < m) (hc : k < 3) : f_Rw_valueOf [.ref t, .int (nI r), .int (nI k)] (hp G) = some (some (.int (nI (V r k))), hp G) := by
  have hm := hk.1
  rw [e_Rw_valueOf t _ _ _ (ob_Rw G ho)]
  simp (disch := omega) only [gg_Rw_come _ ho, gg_Rw_value _ ho, hi.1.1, Option.bind_some, n_lit, n_lt, n_mul, nI_add, rr_Rw_value _ ho, hi.2 r k hr hc]
  rw [if_neg (by omega), if_pos hr, if_pos (by omega), if_neg (by omega), if_pos hc]
theorem s_Rw_set0 (ho : okRw t) (h1 : G.1 t 1 = nI m) (hm : m ≤ 30) {r k : Nat} (x : Int32) (hr : r < m) (hc : k < 3) : f_Rw_setValue [.ref t, .int (nI r), .int (nI k), .int x] (hp G) = some (none, hp (gsi G (t + 1) (r * 3 + k) x)) := by
  rw [e_Rw_setValue t _ _ _ _ (ob_Rw G ho), s_Rw_hasCome0 ho h1 hm (by omega), ci_some, if_neg (by simp [b2, hr]), if_neg (n_nneg (by omega)), if_pos (show nI k < (3 : Int32) from lp (n := 3) hc (by omega))]
  simp (disch := omega) only [gg_Rw_value _ ho, Option.bind_some, n_lit, n_mul, nI_add, uu_Rw_value _ ho]
theorem s_Rw_setValue (ho : okRw t) (hi : isRw G t V m d c) (hk : okR V m d c) {r k v : Nat} (hr : r < m) (hc : k < 3) : f_Rw_setValue [.ref t, .int (nI r), .int (nI k), .int (nI v)] (hp G) = some (none, hp (gsi G (t + 1) (r * 3 + k) (nI v))) ∧ isRw (gsi G (t + 1) (r * 3 + k) (nI v)) t (setV V r k v) m d c := by
  have hm := hk.1
  constructor
  · exact s_Rw_set0 ho hi.1.1 hm _ hr hc
  · obtain ⟨⟨a1, a2, a3⟩, a4⟩ := hi
    have n1 : t ≠ t + 1 := by omega
    refine ⟨⟨?_, ?_, ?_⟩, fun r' k' hr' hk' => ?_⟩
    · rw [gsi_i, if_neg n1]; exact a1
    · rw [gsi_i, if_neg n1]; exact a2
    · rw [gsi_i, if_neg n1]; exact a3
    · rw [gsi_i, if_pos rfl]
      unfold setV
      by_cases h : r' = r ∧ k' = k
      · rw [if_pos h, h.1, h.2, upd_at]
      · rw [if_neg h, upd_ne _ _ (by omega)]
        exact a4 r' k' hr' hk'
theorem s_Rw_having (ho : okRw t) (hi : isRw G t V m d c) (hk : okR V m d c) {k v : Nat} (hc : k < 3) (hv : v < 2147483648) : f_Rw_having [.ref t, .int (nI k), .int (nI v)] (hp G) = some (some (.int (havS V (visB d c) k v)), hp G) := by
  have hm := hk.1
  have h3 : nI k < (3 : Int32) := by rw [show (3 : Int32) = nI 3 from rfl, n_lt (by omega) (by omega)]; exact hc
  rw [e_Rw_having t _ _ _ (ob_Rw G ho), if_neg (n_nneg (by omega)), if_pos h3]
  have key : ∀ (j r f : Nat), r + j = m → j < f → mm_run p_Rw_having f 16 [.ref t, .int (nI k), .int (nI v), .int (msk (fun q => V q k == v) r), .int (nI r)] [] (hp G) = some (some (.int (havS V (visB d c) k v)), hp G) := by
    intro j
    induction j with
    | zero =>
      intro r f hj hf
      obtain ⟨f, rfl⟩ : ∃ g, f = g + 1 := ⟨f - 1, by omega⟩
      rw [e_Rw_having_16]
      simp (disch := omega) only [gg_Rw_come _ ho, gg_Rw_there _ ho, gg_Rw_chosen _ ho, hi.1.1, hi.1.2.1, hi.1.2.2, Option.bind_some, n_lt]
      rw [if_neg (by omega)]
      have : (msk (fun q => V q k == v) r &&& d) &&& (c ^^^ (-1)) = havS V (visB d c) k v := by
        apply b_ext
        intro i hi32
        rw [bt_hav _ _ _ _ hi32, b_and, b_and, bt_not _ hi32, bt_msk _ _ (by omega) i hi32, bt_vis _ _ hi32]
        cases hd : bt d i
        · simp
        · have := hk.2.2.1 i hd
          have h1 : i < r := by omega
          have h2 : i < 30 := by omega
          simp [h1, h2, Bool.and_comm]
      rw [this]
    | succ j ih =>
      intro r f hj hf
      obtain ⟨f, rfl⟩ : ∃ g, f = g + 1 := ⟨f - 1, by omega⟩
      have hrm : r < m := by omega
      have := hk.2.1 r k hrm hc
      rw [e_Rw_having_16]
      simp (disch := omega) only [gg_Rw_come _ ho, gg_Rw_value _ ho, hi.1.1, Option.bind_some, n_lit, n_lt, n_mul, nI_add, rr_Rw_value _ ho, hi.2 r k hrm hc, n_eq]
      rw [if_pos hrm, if_pos (by omega)]
      have h1 := ih (r + 1) f (by omega) (by omega)
      by_cases he : V r k = v
      · rw [if_pos he]
        have : msk (fun q => V q k == v) (r + 1) = msk (fun q => V q k == v) r ||| sbit r := by
          apply b_ext
          intro i hi32
          rw [b_or, bt_msk _ _ (by omega) i hi32, bt_msk _ _ (by omega) i hi32, bt_sbit (by omega) hi32]
          by_cases e1 : i = r
          · subst e1; simp [he]
          · simp [e1, show (i < r + 1) = (i < r) from propext (by omega)]
        rw [this] at h1
        exact h1
      · rw [if_neg he]
        have : msk (fun q => V q k == v) (r + 1) = msk (fun q => V q k == v) r := by
          apply b_ext
          intro i hi32
          rw [bt_msk _ _ (by omega) i hi32, bt_msk _ _ (by omega) i hi32]
          by_cases e1 : i = r
          · subst e1; simp [he]
          · simp [show (i < r + 1) = (i < r) from propext (by omega)]
        rw [this] at h1
        exact h1
  have := key m 0 mm_fu (by omega) (fu_lt (by omega))
  exact this
theorem isRw.off {G' : GG} {S : Nat → Prop} (hi : isRw G t V m d c) (hq : eqOff S G G') (h0 : ¬ S t) (h1 : ¬ S (t + 1)) : isRw G' t V m d c := by
  obtain ⟨⟨a1, a2, a3⟩, a4⟩ := hi
  have e0 := (hq t h0).1
  have e1 := (hq (t + 1) h1).1
  exact ⟨⟨by rw [e0]; exact a1, by rw [e0]; exact a2, by rw [e0]; exact a3⟩, fun r k hr hk => by rw [e1]; exact a4 r k hr hk⟩
/-- a new row's values -/
def newV (V : Nat → Nat → Nat) (m x y z : Nat) : Nat → Nat → Nat := fun r k => if r = m then (if k = 0 then x else if k = 1 then y else z) else V r k
theorem okR.add (hk : okR V m d c) (hm : m < 30) {x y z : Nat} (hx : x ≤ 999) (hy : y ≤ 999) (hz : z ≤ 999) : okR (newV V m x y z) (m + 1) (d ||| sbit m) c := by
  obtain ⟨a1, a2, a3, a4⟩ := hk
  refine ⟨by omega, fun r k hr hk => ?_, fun r hr => ?_, fun r hr => ?_⟩
  · unfold newV
    by_cases h : r = m
    · rw [if_pos h]
      split
      · exact hx
      · split
        · exact hy
        · exact hz
    · rw [if_neg h]
      exact a2 r k (by omega) hk
  · rcases Nat.lt_or_ge r 32 with q | q
    · rw [b_or, bt_sbit (by omega) q] at hr
      simp only [Bool.or_eq_true, decide_eq_true_eq] at hr
      rcases hr with hr | hr
      · have := a3 r hr; omega
      · omega
    · rw [b_big q] at hr; exact absurd hr (by decide)
  · rw [b_or, a4 r hr]; rfl
theorem s_Rw_add (ho : okRw t) (hi : isRw G t V m d c) (hk : okR V m d c) (hm : m < 30) {x y z : Nat} (hx : x ≤ 999) (hy : y ≤ 999) (hz : z ≤ 999) : ∃ G', f_Rw_add [.ref t, .int (nI x), .int (nI y), .int (nI z)] (hp G) = some (some (.int (nI m)), hp G') ∧ isRw G' t (newV V m x y z) (m + 1) (d ||| sbit m) c ∧ eqOff (inR t (t + 2)) G G' := by
  obtain ⟨⟨a1, a2, a3⟩, a4⟩ := hi
  have n1 : t ≠ t + 1 := by omega
  have n2 : t + 1 ≠ t := by omega
  rw [e_Rw_add t _ _ _ _ (ob_Rw G ho)]
  simp (disch := omega) only [gg_Rw_come _ ho, gg_Rw_there _ ho, ww_Rw_come _ ho, ww_Rw_there _ ho, a1, a2, Option.bind_some, gsi_i, if_true, upd_ne _ _ (show (2 : Nat) ≠ 1 by decide)]
  rw [if_pos (show nI m < (30 : Int32) from lp (n := 30) hm (by omega))]
  rw [show nI m + 1 = nI (m + 1) from nI_add m 1]
  rw [show (1 : Int32) <<< (nI m &&& 31) = sbit m from rfl]
  have q0 : (gsi (gsi G t 1 (nI (m + 1))) t 2 (d ||| sbit m)).1 t 1 = nI (m + 1) := by
    simp only [gsi_i, if_true, upd_at, upd_ne _ _ (show (1 : Nat) ≠ 2 by decide)]
  rw [show (0 : Int32) = nI 0 from rfl, s_Rw_set0 ho q0 (by omega) _ (Nat.lt_succ_self m) (by omega), cv_some]
  have q1 : (gsi (gsi (gsi G t 1 (nI (m + 1))) t 2 (d ||| sbit m)) (t + 1) (m * 3 + 0) (nI x)).1 t 1 = nI (m + 1) := by
    rw [gsi_i, if_neg n1, q0]
  rw [show (1 : Int32) = nI 1 from rfl, s_Rw_set0 ho q1 (by omega) _ (Nat.lt_succ_self m) (by omega), cv_some]
  have q2 : (gsi (gsi (gsi (gsi G t 1 (nI (m + 1))) t 2 (d ||| sbit m)) (t + 1) (m * 3 + 0) (nI x)) (t + 1) (m * 3 + 1) (nI y)).1 t 1 = nI (m + 1) := by
    rw [gsi_i, if_neg n1, q1]
  rw [show (2 : Int32) = nI 2 from rfl, s_Rw_set0 ho q2 (by omega) _ (Nat.lt_succ_self m) (by omega), cv_some]
  refine ⟨_, rfl, ⟨⟨?_, ?_, ?_⟩, fun r k hr hk3 => ?_⟩, ?_⟩
  · rw [gsi_i, if_neg n1, q2]
  · simp only [gsi_i, if_true, if_neg n1, upd_at]
  · simp only [gsi_i, if_true, if_neg n1, upd_ne _ _ (show (3 : Nat) ≠ 2 by decide), upd_ne _ _ (show (3 : Nat) ≠ 1 by decide)]
    exact a3
  · simp only [gsi_i, if_true, if_neg n2]
    unfold newV
    by_cases h : r = m
    · subst h
      rw [if_pos rfl]
      obtain rfl | rfl | rfl : k = 0 ∨ k = 1 ∨ k = 2 := by omega
      · rw [upd_ne _ _ (by omega), upd_ne _ _ (by omega), upd_at, if_pos rfl]
      · rw [upd_ne _ _ (by omega), upd_at, if_neg (by decide), if_pos rfl]
      · rw [upd_at, if_neg (by decide), if_neg (by decide)]
    · rw [if_neg h, upd_ne _ _ (by omega), upd_ne _ _ (by omega), upd_ne _ _ (by omega)]
      exact a4 r k (by omega) hk3
  · exact ((((eqOff.gsi _ _ ⟨by omega, by omega⟩).tr (eqOff.gsi _ _ ⟨by omega, by omega⟩)).tr (eqOff.gsi _ _ ⟨by omega, by omega⟩)).tr (eqOff.gsi _ _ ⟨by omega, by omega⟩)).tr (eqOff.gsi _ _ ⟨by omega, by omega⟩)
theorem s_Rw_add_full (ho : okRw t) (hi : isRw G t V 30 d c) {x y z : Int32} : f_Rw_add [.ref t, .int x, .int y, .int z] (hp G) = some (some (.int (-1)), hp G) := by
  rw [e_Rw_add t _ _ _ _ (ob_Rw G ho), gg_Rw_come _ ho, Option.bind_some, hi.1.1, if_neg (by decide)]
theorem s_Rw_takeBackLast (ho : okRw t) (hi : isRw G t V (m + 1) d c) (hm : m < 30) : ∃ G', f_Rw_takeBackLast [.ref t] (hp G) = some (none, hp G') ∧ isRw G' t V m (d &&& (sbit m ^^^ (-1))) c ∧ eqOff (inR t (t + 2)) G G' := by
  obtain ⟨⟨a1, a2, a3⟩, a4⟩ := hi
  have n2 : t + 1 ≠ t := by omega
  rw [e_Rw_takeBackLast t _ (ob_Rw G ho)]
  simp (disch := omega) only [gg_Rw_come _ ho, gg_Rw_there _ ho, ww_Rw_come _ ho, ww_Rw_there _ ho, a1, a2, Option.bind_some, gsi_i, if_true, upd_at, upd_ne _ _ (show (2 : Nat) ≠ 1 by decide)]
  rw [if_pos (show (0 : Int32) < nI (m + 1) from lp (a := 0) (by omega) (by omega))]
  rw [show nI (m + 1) - 1 = nI m from n_sub (a := m + 1) (b := 1) (by omega)]
  rw [show (1 : Int32) <<< (nI m &&& 31) = sbit m from rfl]
  refine ⟨_, rfl, ⟨⟨?_, ?_, ?_⟩, fun r k hr hk3 => ?_⟩, ?_⟩
  · simp only [gsi_i, if_true, upd_at, upd_ne _ _ (show (1 : Nat) ≠ 2 by decide)]
  · simp only [gsi_i, if_true, upd_at]
  · simp only [gsi_i, if_true, upd_ne _ _ (show (3 : Nat) ≠ 2 by decide), upd_ne _ _ (show (3 : Nat) ≠ 1 by decide)]
    exact a3
  · simp only [gsi_i, if_neg n2]
    exact a4 r k (by omega) hk3
  · exact (eqOff.gsi _ _ ⟨by omega, by omega⟩).tr (eqOff.gsi _ _ ⟨by omega, by omega⟩)
theorem s_Rw_become {u : Nat} (ho : okRw t) (ho' : okRw u) (hne : u + 2 ≤ t ∨ t + 2 ≤ u) (hi : isRw G u V m d c) (hk : okR V m d c) : ∃ G', f_Rw_become [.ref t, .ref u] (hp G) = some (none, hp G') ∧ isRw G' t V m d c ∧ eqOff (inR t (t + 2)) G G' := by
  obtain ⟨⟨a1, a2, a3⟩, a4⟩ := hi
  have hm := hk.1
  have m1 : u ≠ t + 1 := by omega
  have m3 : u ≠ t := by omega
  have n2 : t + 1 ≠ t := by omega
  have n3 : t ≠ t + 1 := by omega
  rw [e_Rw_become t _ _ (ob_Rw G ho)]
  have hcp := hp_cp (G := G) ho'.2 ho.2 (Nat.le_refl 90) (Nat.le_refl 90) (by decide)
  rw [gg_Rw_value _ ho, gg_Rw_value _ ho', Option.bind_some, Option.bind_some, show mm_cp (hp G) (u + 1) 0 (t + 1) 0 90 = _ from hcp, Option.bind_some]
  simp (disch := omega) only [gg_Rw_come _ ho', gg_Rw_there _ ho', gg_Rw_chosen _ ho', ww_Rw_come _ ho, ww_Rw_there _ ho, ww_Rw_chosen _ ho, Option.bind_some, gsi_i, gsa_i, if_neg m1, if_neg m3, a1, a2, a3]
  refine ⟨_, rfl, ⟨⟨?_, ?_, ?_⟩, fun r k hr hk3 => ?_⟩, ?_⟩
  · simp only [gsi_i, if_true, upd_at, upd_ne _ _ (show (1 : Nat) ≠ 2 by decide), upd_ne _ _ (show (1 : Nat) ≠ 3 by decide)]
  · simp only [gsi_i, if_true, upd_at, upd_ne _ _ (show (2 : Nat) ≠ 3 by decide)]
  · simp only [gsi_i, if_true, upd_at]
  · simp only [gsi_i, gsa_i, if_neg n2, if_true]
    rw [if_pos (by omega)]
    exact a4 r k hr hk3
  · exact (((eqOff.gsa _ ⟨by omega, by omega⟩).tr (eqOff.gsi _ _ ⟨by omega, by omega⟩)).tr (eqOff.gsi _ _ ⟨by omega, by omega⟩)).tr (eqOff.gsi _ _ ⟨by omega, by omega⟩)
theorem s_Rw_clear (ho : okRw t) : ∃ G', f_Rw_clear [.ref t] (hp G) = some (none, hp G') ∧ isRw G' t V 0 0 0 ∧ eqOff (inR t (t + 2)) G G' := by
  rw [e_Rw_clear t _ (ob_Rw G ho)]
  simp only [ww_Rw_come _ ho, ww_Rw_there _ ho, ww_Rw_chosen _ ho, Option.bind_some]
  refine ⟨_, rfl, ⟨⟨?_, ?_, ?_⟩, fun r k hr hk3 => by omega⟩, ?_⟩
  · simp only [gsi_i, if_true, upd_at, upd_ne _ _ (show (1 : Nat) ≠ 2 by decide), upd_ne _ _ (show (1 : Nat) ≠ 3 by decide)]
    rfl
  · simp only [gsi_i, if_true, upd_at, upd_ne _ _ (show (2 : Nat) ≠ 3 by decide)]
  · simp only [gsi_i, if_true, upd_at]
  · exact ((eqOff.gsi _ _ ⟨by omega, by omega⟩).tr (eqOff.gsi _ _ ⟨by omega, by omega⟩)).tr (eqOff.gsi _ _ ⟨by omega, by omega⟩)
end RWS
