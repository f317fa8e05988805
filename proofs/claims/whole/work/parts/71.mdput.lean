/-! THE REFERENCE: an entry comes, an entry goes -/
def mdF (S : Nat → Prop) (G G' : GG) : Prop := (∀ n, n ≠ 628 → n ≠ 618 → G'.1 n = G.1 n) ∧ G'.2 = G.2 ∧ (∀ k, k ≠ 20 → k ≠ 21 → G'.1 618 k = G.1 618 k) ∧ ∀ k, ¬ S k → G'.1 628 k = G.1 628 k
theorem mdF.rf {S : Nat → Prop} {G : GG} : mdF S G G := ⟨fun _ _ _ => rfl, rfl, fun _ _ _ => rfl, fun _ _ => rfl⟩
theorem mdF.tr {S : Nat → Prop} {G1 G2 G3 : GG} (h1 : mdF S G1 G2) (h2 : mdF S G2 G3) : mdF S G1 G3 := ⟨fun n a b => (h2.1 n a b).trans (h1.1 n a b), h2.2.1.trans h1.2.1, fun k a b => (h2.2.2.1 k a b).trans (h1.2.2.1 k a b), fun k a => (h2.2.2.2 k a).trans (h1.2.2.2 k a)⟩
theorem mdF.mono {S T : Nat → Prop} {G G' : GG} (h : mdF S G G') (hs : ∀ k, S k → T k) : mdF T G G' := ⟨h.1, h.2.1, h.2.2.1, fun k hk => h.2.2.2 k (fun q => hk (hs k q))⟩
theorem mdF.arr {S : Nat → Prop} {G : GG} {f : Nat → Int32} (h : ∀ k, ¬ S k → f k = G.1 628 k) : mdF S G (gsa G 628 f) := ⟨fun n a b => by rw [gsa_i, if_neg a], rfl, fun k a b => by rw [gsa_i, if_neg (by decide)], fun k hk => by rw [gsa_i, if_pos rfl]; exact h k hk⟩
theorem mdF.cell {S : Nat → Prop} {G : GG} {k : Nat} {v : Int32} (h : S k) : mdF S G (gsi G 628 k v) := mdF.arr (fun j hj => upd_ne _ _ (fun e => hj (e ▸ h)))
theorem mdF.fld {S : Nat → Prop} {G : GG} {k : Nat} {v : Int32} (h : k = 20 ∨ k = 21) : mdF S G (gsi G 618 k v) := ⟨fun n a b => by rw [gsi_i, if_neg b], rfl, fun j a b => by rw [gsi_i, if_pos rfl, upd_ne _ _ (by omega)], fun j hj => by rw [gsi_i, if_neg (by decide)]⟩
theorem mdF.lh {S : Nat → Prop} {G : GG} (x y : Nat) : mdF S G (lhG G x y) := (mdF.fld (Or.inl rfl)).tr (mdF.fld (Or.inr rfl))
def isMf (f : Nat → Int32) (s : Nat) (m : List Nat) : Prop := f s = nI m.length ∧ hold (fun i => f (s + 1 + i)) m
theorem isM_f {G : GG} {s : Nat} {m : List Nat} : isM G s m ↔ isMf (G.1 628) s m := Iff.rfl
theorem isM_a {G : GG} {s : Nat} {m : List Nat} {f : Nat → Int32} (h : isMf f s m) : isM (gsa G 628 f) s m := by
  unfold isM
  rw [gsa_i, if_pos rfl]
  exact h
theorem isM.off {G G' : GG} {s : Nat} {m : List Nat} (h : isM G s m) (h30 : m.length ≤ 30) (e : ∀ k, s ≤ k → k < s + 31 → G'.1 628 k = G.1 628 k) : isM G' s m := ⟨by rw [e s (Nat.le_refl _) (by omega)]; exact h.1, fun k hk => by rw [e (s + 1 + k) (by omega) (by omega)]; exact h.2 k hk⟩
theorem shR_off (f : Nat → Int32) (S n j : Nat) : (fun i => shR f (S + n) (S + j) (S + i)) = shR (fun i => f (S + i)) n j := by
  funext i
  unfold shR
  by_cases h : j < i ∧ i ≤ n
  · rw [if_pos (by omega), if_pos h, show S + i - 1 = S + (i - 1) by omega]
  · rw [if_neg (by omega), if_neg h]
theorem shL_off (f : Nat → Int32) (S a j : Nat) : (fun i => shL f (S + a) (S + j) (S + i)) = shL (fun i => f (S + i)) a j := by
  funext i
  unfold shL
  by_cases h : a ≤ i ∧ i < j
  · rw [if_pos (by omega), if_pos h, Nat.add_assoc]
  · rw [if_neg (by omega), if_neg h]
theorem mf_ins {f : Nat → Int32} {s : Nat} {x y : List Nat} (v : Nat) (h : isMf f s (x ++ y)) : isMf (upd (upd (shR f (s + 1 + (x ++ y).length) (s + 1 + x.length)) s (nI ((x ++ y).length + 1))) (s + 1 + x.length) (nI v)) s (x ++ v :: y) := by
  refine ⟨?_, ?_⟩
  · rw [upd_ne _ _ (by omega), upd_at]
    simp only [List.length_append, List.length_cons]
    rfl
  · refine (hold_ins v h.2).cong (fun i hi => ?_)
    have e := congrFun (shR_off f (s + 1) (x ++ y).length x.length) i
    by_cases g : i = x.length
    · rw [g, upd_at, upd_at]
    · rw [upd_ne _ _ (by omega), upd_ne _ _ (by omega), upd_ne _ _ (by omega), ← e]
theorem mf_upd {f : Nat → Int32} {s : Nat} {x y : List Nat} {u : Nat} (v : Nat) (h : isMf f s (x ++ u :: y)) : isMf (upd f (s + 1 + x.length) (nI v)) s (x ++ v :: y) := by
  refine ⟨?_, ?_⟩
  · rw [upd_ne _ _ (by omega), h.1]
    simp only [List.length_append, List.length_cons]
  · refine (hold_upd v h.2).cong (fun i hi => ?_)
    by_cases g : i = x.length
    · rw [g, upd_at, upd_at]
    · rw [upd_ne _ _ (by omega), upd_ne _ _ (by omega)]
theorem mf_del {f : Nat → Int32} {s : Nat} {x y : List Nat} {u : Nat} (h : isMf f s (x ++ u :: y)) : isMf (upd (shL f (s + 1 + x.length) (s + 1 + (x ++ y).length)) s (nI (x ++ y).length)) s (x ++ y) := by
  refine ⟨by rw [upd_at], ?_⟩
  refine (hold_del h.2).cong (fun i hi => ?_)
  have e := congrFun (shL_off f (s + 1) x.length (x ++ y).length) i
  rw [upd_ne _ _ (by omega), ← e]
theorem mf_at {f : Nat → Int32} {s : Nat} {x y : List Nat} {u : Nat} (h : isMf f s (x ++ u :: y)) : f (s + 1 + x.length) = nI u := hold_at h.2
/-! the signs, as lists -/
theorem fl1_app (a : Nat) (as l : List Nat) : fl1 (a :: as ++ l) = fl1 (a :: as) ++ l.map (2 * ·) := by simp [fl1]
theorem fl1_split {l : List Nat} {t : Nat} (h1 : 1 ≤ t) (h2 : t < l.length) : ∃ x u y, fl1 l = x ++ u :: y ∧ x.length = t ∧ u % 2 = 0 ∧ fl1 (l.take t) ++ fl1 (l.drop t) = x ++ (u + 1) :: y := by
  cases l with
  | nil => simp at h2
  | cons a as =>
    obtain ⟨t, rfl⟩ : ∃ s, t = s + 1 := ⟨t - 1, by omega⟩
    simp only [List.length_cons] at h2
    have ht : t < as.length := by omega
    refine ⟨fl1 (a :: as.take t), 2 * as[t], (as.drop (t + 1)).map (2 * ·), ?_, ?_, by omega, ?_⟩
    · have : as = as.take t ++ as[t] :: as.drop (t + 1) := by rw [← drop_cons ht, List.take_append_drop]
      have e2 : as.map (2 * ·) = (as.take t).map (2 * ·) ++ 2 * as[t] :: (as.drop (t + 1)).map (2 * ·) := by
        rw [← List.map_cons (f := fun x => 2 * x), ← List.map_append, ← this]
      show (2 * a + 1) :: as.map (2 * ·) = ((2 * a + 1) :: (as.take t).map (2 * ·)) ++ _
      rw [e2]
      rfl
    · rw [fl1_len, List.length_cons, List.length_take]; omega
    · rw [List.take_succ_cons, List.drop_succ_cons, drop_cons ht]
      simp [fl1]
theorem flat_low {A B : LL} {l1 l2 : List Nat} {c : Nat} (p1 : ∀ x ∈ A.flatten, x < c) (p2 : ∀ x ∈ l1, x < c) (p3 : ∀ x ∈ l2, ¬ x < c) (p4 : ∀ x ∈ B.flatten, ¬ x < c) : ((fl (A ++ (l1 ++ l2) :: B)).filter (fun x => decide (x / 2 < c))).length = A.flatten.length + l1.length := by
  have e : ((fl (A ++ (l1 ++ l2) :: B)).filter (fun x => decide (x / 2 < c))).length = ((fl (A ++ (l1 ++ l2) :: B)).map (· / 2) |>.filter (fun x => decide (x < c))).length := by
    rw [List.filter_map, List.length_map]
    rfl
  rw [e, fl_code]
  simp only [List.flatten_append, List.flatten_cons, List.filter_append, List.length_append]
  have q : ∀ (l : List Nat), (∀ x ∈ l, x < c) → (l.filter (fun x => decide (x < c))) = l := fun l h => List.filter_eq_self.mpr (fun x hx => by simpa using h x hx)
  have q0 : ∀ (l : List Nat), (∀ x ∈ l, ¬ x < c) → (l.filter (fun x => decide (x < c))) = [] := fun l h => List.filter_eq_nil_iff.mpr (fun x hx => by simpa using h x hx)
  rw [q _ p1, q _ p2, q0 _ p3, q0 _ p4]
  simp
def trR (s k : Nat) : Prop := s ≤ k ∧ k < s + 31
section MDP
variable {G : GG} {b i page : Nat} {L : LL}
theorem s_spent (hb : b ≤ 9252) (x : Int32) : mm_si (hp G) 628 (nI b + 3) x = some (hp (gsi G 628 (b + 3) x)) ∧ mm_li (hp G) 628 (nI b + 3) = some (G.1 628 (b + 3)) := by
  rw [show nI b + 3 = nI (b + 3) from nI_add b 3]
  exact ⟨uu_Md_state _ (by omega) _, rr_Md_state _ (by omega)⟩
/-- the tail of an entry's coming: too full a leaf is cut -/
theorem s_puts_156 (hp0 : G.1 624 0 = nI page) (hpg : 2 ≤ page ∧ page ≤ 8) (hb : b ≤ 9252) (hi : i < 4) {A B : LL} {l : List Nat} (h : isM G (b + 359 + 31 * i) (fl (A ++ l :: B))) (hk : okM (fl (A ++ l :: B))) (hB : ∀ x ∈ B, x ≠ []) {q : Nat} (hq : q < l.length) {f : Nat} : ∃ G', mm_run p_Md_puts (f + 1) 156 [.ref 618, .int (nI b), .int (nI i), .int (nI (b + 359 + 31 * i + 1)), .int (nI (A.flatten.length + q))] [] (hp G) = some (none, hp G') ∧ isM G' (b + 359 + 31 * i) (fl (A ++ (spl page l ++ B))) ∧ mdF (trR (b + 359 + 31 * i)) G G' := by
  have hlen : (fl (A ++ l :: B)).length = A.flatten.length + (l.length + B.flatten.length) := by rw [fl_len]; simp
  have h30 := hk.1
  rw [e_Md_puts_156, s_Md_leafAround hb hi h hk (by omega), cv_some, gg_Md_high, Option.bind_some, gg_Md_low, Option.bind_some, low_fl hq, high_fl hB hq]
  have e21 : (lhG G A.flatten.length (A.flatten.length + l.length)).1 618 21 = nI (A.flatten.length + l.length) := by unfold lhG; rw [gsi_i, if_pos rfl, upd_at]
  have e20 : (lhG G A.flatten.length (A.flatten.length + l.length)).1 618 20 = nI A.flatten.length := by unfold lhG; rw [gsi_i, if_pos rfl, upd_ne _ _ (by decide), gsi_i, if_pos rfl, upd_at]
  rw [e21, e20]
  generalize hG1 : lhG G A.flatten.length (A.flatten.length + l.length) = G1 at *
  have q1 : mdF (trR (b + 359 + 31 * i)) G G1 := by rw [← hG1]; exact mdF.lh _ _
  have e628 : G1.1 628 = G.1 628 := by rw [← hG1]; unfold lhG; rw [gsi_i, if_neg (by decide), gsi_i, if_neg (by decide)]
  have hp1 : G1.1 624 0 = nI page := by rw [q1.1 624 (by decide) (by decide)]; exact hp0
  have hM1 : isM G1 (b + 359 + 31 * i) (fl (A ++ l :: B)) := by unfold isM; rw [e628]; exact h
  rw [s_Md_page hp1, ci_some, n_sub (by omega), show A.flatten.length + l.length - A.flatten.length = l.length by omega]
  unfold spl
  by_cases hc : page < l.length
  · rw [if_pos (lp hc (by omega)), if_pos hc, gg_Md_state, Option.bind_some, gg_Md_high, Option.bind_some, e21, s_Md_page hp1, ci_some, show nI page + 1 = nI (page + 1) from nI_add _ 1, show nI (page + 1) / 2 = nI ((page + 1) / 2) from n_div (b := 2) (by omega) (by decide) (by decide), i_add, n_sub (by omega)]
    obtain ⟨x, u, y, f1, f2, f3, f4⟩ := fl1_split (l := l) (t := l.length - (page + 1) / 2) (by omega) (by omega)
    have eix : b + 359 + 31 * i + 1 + (A.flatten.length + l.length) - (page + 1) / 2 = b + 359 + 31 * i + 1 + (fl A ++ x).length := by rw [List.length_append, fl_len, f2]; omega
    have hfl : fl (A ++ l :: B) = (fl A ++ x) ++ u :: (y ++ fl B) := by rw [fl_app, fl_cons, f1]; simp
    have hMf := isM_f.mp hM1
    rw [hfl] at hMf
    have hu := mf_at hMf
    have hbound : b + 359 + 31 * i + 1 + (fl A ++ x).length < 9766 := by rw [List.length_append, fl_len, f2]; omega
    rw [eix, rr_Md_state _ hbound, Option.bind_some, hu, uu_Md_state _ hbound, Option.bind_some, show nI u + 1 = nI (u + 1) from nI_add u 1]
    refine ⟨_, rfl, ?_, q1.tr (mdF.cell ?_)⟩
    · have := isM_a (G := G1) (mf_upd (u + 1) hMf)
      have e2 : fl (A ++ ([l.take (l.length - (page + 1) / 2), l.drop (l.length - (page + 1) / 2)] ++ B)) = (fl A ++ x) ++ (u + 1) :: (y ++ fl B) := by
        rw [fl_app, fl_app, fl_cons, fl_cons]
        have : fl1 (l.take (l.length - (page + 1) / 2)) ++ (fl1 (l.drop (l.length - (page + 1) / 2)) ++ fl []) ++ fl B = (fl1 (l.take (l.length - (page + 1) / 2)) ++ fl1 (l.drop (l.length - (page + 1) / 2))) ++ fl B := by simp [fl]
        rw [this, f4]
        simp
      rw [e2]
      exact this
    · have : (fl A ++ x).length = A.flatten.length + (l.length - (page + 1) / 2) := by rw [List.length_append, fl_len, f2]
      exact ⟨by omega, by omega⟩
  · rw [if_neg (lm (by omega) (by omega)), if_neg hc]
    exact ⟨G1, rfl, hM1, q1⟩
theorem puts_loop (hb : b ≤ 9252) (hi : i < 4) {n p e : Nat} (hn : n ≤ 29) : ∀ (j k f : Nat), k = p + j → k ≤ n → j < f → mm_run p_Md_puts f 46 [.ref 618, .int (nI b), .int (nI i), .int (nI e), .int (nI (b + 359 + 31 * i + 1)), .int (nI p), .int (nI k)] [] (hp (gsa G 628 (shR (G.1 628) (b + 359 + 31 * i + 1 + n) (b + 359 + 31 * i + 1 + k)))) = mm_run p_Md_puts (f - j) 46 [.ref 618, .int (nI b), .int (nI i), .int (nI e), .int (nI (b + 359 + 31 * i + 1)), .int (nI p), .int (nI p)] [] (hp (gsa G 628 (shR (G.1 628) (b + 359 + 31 * i + 1 + n) (b + 359 + 31 * i + 1 + p)))) := by
  intro j
  induction j with
  | zero => intro k f hk _ _; rw [hk]; rfl
  | succ j ih =>
    intro k f hk hkn hf
    obtain ⟨f, rfl⟩ : ∃ g, f = g + 1 := ⟨f - 1, by omega⟩
    obtain ⟨k, rfl⟩ : ∃ g, k = g + 1 := ⟨k - 1, by omega⟩
    rw [e_Md_puts_46, if_pos (lp (by omega) (by omega)), gg_Md_state, Option.bind_some, Option.bind_some, i_add, show nI (b + 359 + 31 * i + 1 + (k + 1)) - 1 = nI (b + 359 + 31 * i + 1 + k) from n_sub (b := 1) (by omega), rr_Md_state _ (by omega), Option.bind_some, uu_Md_state _ (by omega), Option.bind_some, gsi_gsa, gsa_i, if_pos rfl, show nI (k + 1) + -1 = nI k from n_addneg (b := 1) (by omega), show b + 359 + 31 * i + 1 + (k + 1) = (b + 359 + 31 * i + 1 + k) + 1 by omega, shR_step (by omega), ih k f (by omega) (by omega) (by omega), show f + 1 - (j + 1) = f - j by omega]
/-- an entry comes, behind what lies below it -/
theorem s_Md_puts (hp0 : G.1 624 0 = nI page) (hb : b ≤ 9252) (hi : i < 4) (h : isM G (b + 359 + 31 * i) (fl L)) (hk : okL page L) {c : Nat} (hc : c < 32000) (hl : L.flatten.length < 30) (hno : c ∉ L.flatten) : ∃ G', f_Md_puts [.ref 618, .int (nI b), .int (nI i), .int (nI c)] (hp G) = some (none, hp G') ∧ isM G' (b + 359 + 31 * i) (fl (putL page c L)) ∧ G'.1 628 (b + 3) = G.1 628 (b + 3) + (nI (hg page L.length) + 2) ∧ mdF (fun k => k = b + 3 ∨ trR (b + 359 + 31 * i) k) G G' := by
  have hpg := hk.1
  have hkM := okM_fl hk
  have hlen := fl_len L
  rw [e_Md_puts 618 _ _ _ _ (ob_Md G), gg_Md_state, Option.bind_some, (s_spent hb 0).2, Option.bind_some, s_Md_height hp0 hpg hb hi h hkM, ci_some, fl_odd (fun l hl => (hk.2.2.1 l hl).1), (s_spent hb _).1, Option.bind_some]
  generalize hX : G.1 628 (b + 3) + (nI (hg page L.length) + 2) = X
  have hM1 : isM (gsi G 628 (b + 3) X) (b + 359 + 31 * i) (fl L) := h.off hkM.1 (fun k h1 h2 => by rw [gsi_i, if_pos rfl, upd_ne _ _ (by omega)])
  have hp1 : (gsi G 628 (b + 3) X).1 624 0 = nI page := by rw [gsi_i, if_neg (by decide)]; exact hp0
  have hx1 : (gsi G 628 (b + 3) X).1 628 (b + 3) = X := by rw [gsi_i, if_pos rfl, upd_at]
  have q1 : mdF (fun k => k = b + 3 ∨ trR (b + 359 + 31 * i) k) G (gsi G 628 (b + 3) X) := mdF.cell (Or.inl rfl)
  generalize gsi G 628 (b + 3) X = G1 at *
  rw [s_Md_startOf, ci_some, s_Md_placeFor hb hi hM1 hkM (by omega), ci_some, s_Md_entries hb hi hM1, ci_some, show nI (b + 359 + 31 * i) + 1 = nI (b + 359 + 31 * i + 1) from nI_add _ 1]
  obtain ⟨f0, hf0⟩ : ∃ f, mm_fu = f + 100 := ⟨mm_fu - 100, by have := fu_lt (n := 100) (by decide); omega⟩
  -- the row of entries, as one that lies around the new one
  have hdec : ∃ (A : LL) (l1 l2 : List Nat) (B : LL), (L = A ++ (l1 ++ l2) :: B ∨ (L = [] ∧ A = [] ∧ l1 = [] ∧ l2 = [] ∧ B = [])) ∧ (∀ x ∈ A.flatten, x < c) ∧ (∀ x ∈ l1, x < c) ∧ (∀ x ∈ l2, c < x) ∧ (∀ x ∈ B.flatten, c < x) ∧ (l1 = [] → A = []) ∧ putL page c L = A ++ (spl page (l1 ++ c :: l2) ++ B) ∧ (∀ x ∈ B, x ≠ []) ∧ (l1 = [] → l2 = [] → L = []) := by
    by_cases h0 : L = []
    · refine ⟨[], [], [], [], Or.inr ⟨h0, rfl, rfl, rfl, rfl⟩, by simp, by simp, by simp, by simp, fun _ => rfl, ?_, by simp, fun _ _ => h0⟩
      rw [h0]
      unfold putL spl
      rw [if_neg (by simp; omega)]
      rfl
    · obtain ⟨A, l1, l2, B, e1, p1, p2, p3, p4, p5, p6⟩ := put_dec page c L h0 (fun l hl => (hk.2.2.1 l hl).1) hk.2.2.2.2.1 hno
      refine ⟨A, l1, l2, B, Or.inl e1, p1, p2, p3, p4, p5, p6, fun x hx => (hk.2.2.1 x (by rw [e1]; simp [hx])).1, fun g1 g2 => ?_⟩
      have := (hk.2.2.1 (l1 ++ l2) (by rw [e1]; simp)).1
      rw [g1, g2] at this
      exact absurd rfl this
  obtain ⟨A, l1, l2, B, e1, p1, p2, p3, p4, p5, p6, pB, p7⟩ := hdec
  have hplace : ((fl L).filter (fun x => decide (x / 2 < c))).length = A.flatten.length + l1.length := by
    rcases e1 with e1 | ⟨g0, g1, g2, g3, g4⟩
    · rw [e1]; exact flat_low p1 p2 (fun x hx => by have := p3 x hx; omega) (fun x hx => by have := p4 x hx; omega)
    · rw [g0, g1, g2]; rfl
  have hplen : A.flatten.length + l1.length ≤ (fl L).length := by rw [← hplace]; exact List.length_filter_le _ _
  rw [hplace]
  have hloop := puts_loop (G := G1) hb hi (n := (fl L).length) (p := A.flatten.length + l1.length) (e := c) (by omega) ((fl L).length - (A.flatten.length + l1.length)) (fl L).length mm_fu (by omega) (Nat.le_refl _) (by omega)
  rw [shR_n, gsa_self] at hloop
  rw [hloop]
  obtain ⟨f1, hf1⟩ : ∃ f, mm_fu - ((fl L).length - (A.flatten.length + l1.length)) = f + 2 := ⟨mm_fu - ((fl L).length - (A.flatten.length + l1.length)) - 2, by omega⟩
  rw [hf1, e_Md_puts_46, if_neg (lm (Nat.le_refl _) (by omega)), gg_Md_state, Option.bind_some, show nI (b + 359 + 31 * i + 1) - 1 = nI (b + 359 + 31 * i) from n_sub (b := 1) (by omega), rr_Md_state _ (by omega), Option.bind_some, uu_Md_state _ (by omega), Option.bind_some, gsi_gsa, gg_Md_state, Option.bind_some, i_add, gsa_i, if_pos rfl]
  have hcnt : shR (G1.1 628) (b + 359 + 31 * i + 1 + (fl L).length) (b + 359 + 31 * i + 1 + (A.flatten.length + l1.length)) (b + 359 + 31 * i) = nI (fl L).length := by
    unfold shR
    rw [if_neg (by omega)]
    exact hM1.1
  rw [hcnt, show nI (fl L).length + 1 = nI ((fl L).length + 1) from nI_add _ 1]
  have hbnd : b + 359 + 31 * i + 1 + (A.flatten.length + l1.length) < 9766 := by omega
  have offs : ∀ (v : Int32) (k : Nat), ¬ trR (b + 359 + 31 * i) k → upd (upd (shR (G1.1 628) (b + 359 + 31 * i + 1 + (fl L).length) (b + 359 + 31 * i + 1 + (A.flatten.length + l1.length))) (b + 359 + 31 * i) (nI ((fl L).length + 1))) (b + 359 + 31 * i + 1 + (A.flatten.length + l1.length)) v k = G1.1 628 k := fun v k hk2 => by
    have hk3 : k < b + 359 + 31 * i ∨ b + 359 + 31 * i + 31 ≤ k := by
      unfold trR at hk2
      omega
    rw [upd_ne _ _ (by omega), upd_ne _ _ (by omega)]
    unfold shR
    rw [if_neg (by omega)]
  have kM2 : ∀ {M : List Nat}, M.length ≤ 30 → (∀ x ∈ M, x < 64000) → okM M := fun h1 h2 => ⟨h1, fun k hk => h2 _ (List.getElem_mem hk)⟩
  have hfl1 : ∀ x ∈ fl (A ++ (l1 ++ c :: l2) :: B), x < 64000 := fun x hx => by
    obtain ⟨k, hk1, ek⟩ := List.mem_iff_getElem.mp hx
    have h1 := fl_at hk1
    have h2 : (A ++ (l1 ++ c :: l2) :: B).flatten[k]'(by rw [← fl_len]; exact hk1) ∈ (A ++ (l1 ++ c :: l2) :: B).flatten := List.getElem_mem _
    have h3 : ∀ z ∈ (A ++ (l1 ++ c :: l2) :: B).flatten, z < 32000 := fun z hz => by
      by_cases ez : z = c
      · omega
      · have : z ∈ L.flatten := by
          rcases e1 with e1 | ⟨g0, g1, g2, g3, g4⟩
          · rw [e1]
            simp only [List.flatten_append, List.flatten_cons, List.mem_append, List.mem_cons] at hz ⊢
            rcases hz with hz | (hz | hz | hz) | hz
            · exact Or.inl hz
            · exact Or.inr (Or.inl (Or.inl hz))
            · exact absurd hz ez
            · exact Or.inr (Or.inl (Or.inr hz))
            · exact Or.inr (Or.inr hz)
          · rw [g1, g2, g3, g4] at hz
            simp at hz
            exact absurd hz ez
        exact (hk.2.2.2.1 z this).1
    have := h3 _ h2
    rw [← h1, ek] at this
    omega
  have hfl2 : (fl (A ++ (l1 ++ c :: l2) :: B)).length ≤ 30 := by
    rw [fl_len]
    rcases e1 with e1 | ⟨g0, g1, g2, g3, g4⟩
    · rw [e1] at hl
      simp only [List.flatten_append, List.flatten_cons, List.length_append, List.length_cons] at hl ⊢
      omega
    · rw [g1, g2, g3, g4]; simp
  have hkM2 := kM2 hfl2 hfl1
  by_cases z0 : A.flatten.length + l1.length = 0
  · -- ahead of all
    have hl1 : l1 = [] := List.length_eq_zero_iff.mp (by omega)
    have hA := p5 hl1
    subst hl1 hA
    rw [if_pos (show nI (([] : LL).flatten.length + ([] : List Nat).length) = (0 : Int32) from rfl), uu_Md_state _ hbnd, Option.bind_some, gsi_gsa, if_pos (show nI (([] : LL).flatten.length + ([] : List Nat).length) = (0 : Int32) from rfl), show (2 : Int32) * nI c + 1 = nI (2 * c + 1) by rw [show (2 : Int32) * nI c = nI (2 * c) from n_mul 2 c]; exact nI_add _ 1]
    have hMf : isMf (G1.1 628) (b + 359 + 31 * i) ([] ++ fl L) := hM1
    have hins := mf_ins (2 * c + 1) hMf
    have hM2 : isM (gsa G1 628 (upd (upd (shR (G1.1 628) (b + 359 + 31 * i + 1 + (fl L).length) (b + 359 + 31 * i + 1 + (([] : LL).flatten.length + ([] : List Nat).length))) (b + 359 + 31 * i) (nI ((fl L).length + 1))) (b + 359 + 31 * i + 1 + (([] : LL).flatten.length + ([] : List Nat).length)) (nI (2 * c + 1)))) (b + 359 + 31 * i) ((2 * c + 1) :: fl L) := isM_a hins
    have q2 := q1.tr ((mdF.arr (G := G1) (offs (nI (2 * c + 1)))).mono (T := fun k => k = b + 3 ∨ trR (b + 359 + 31 * i) k) (fun k hk => Or.inr hk))
    have hp2 := (mdF.arr (G := G1) (offs (nI (2 * c + 1)))).1 624 (by decide) (by decide)
    have hx2 := (mdF.arr (G := G1) (offs (nI (2 * c + 1)))).2.2.2 (b + 3) (fun h => by unfold trR at h; omega)
    generalize gsa G1 628 (upd (upd (shR (G1.1 628) (b + 359 + 31 * i + 1 + (fl L).length) (b + 359 + 31 * i + 1 + (([] : LL).flatten.length + ([] : List Nat).length))) (b + 359 + 31 * i) (nI ((fl L).length + 1))) (b + 359 + 31 * i + 1 + (([] : LL).flatten.length + ([] : List Nat).length)) (nI (2 * c + 1))) = G2 at *
    rw [s_Md_entries hb hi hM2, ci_some]
    cases l2 with
    | nil =>
      have hL0 := p7 rfl rfl
      have hB0 : B = [] := by
        rcases e1 with e1 | ⟨g0, g1, g2, g3, g4⟩
        · rw [hL0] at e1; exact absurd e1 (by simp)
        · exact g4
      subst hB0
      rw [if_neg (show ¬ (1 : Int32) < nI ((2 * c + 1) :: fl L).length from lm (a := 1) (by rw [hL0]; exact Nat.le_refl _) (by decide))]
      have hM3 : isM G2 (b + 359 + 31 * i) (fl (([] : LL) ++ ([] ++ c :: []) :: [])) := by
        rw [hL0] at hM2; exact hM2
      obtain ⟨G3, r1, r2, r3⟩ := s_puts_156 (f := f1) (q := 0) (by rw [hp2]; exact hp1) hpg hb hi hM3 hkM2 (by simp) (by simp)
      refine ⟨G3, r1, by rw [p6]; exact r2, ?_, q2.tr (r3.mono (fun k hk => Or.inr hk))⟩
      rw [r3.2.2.2 (b + 3) (fun h => by unfold trR at h; omega), hx2]
      exact hx1
    | cons d ds =>
      have eL : L = ([] : LL) ++ (([] : List Nat) ++ d :: ds) :: B := by
        rcases e1 with e1 | ⟨g0, g1, g2, g3, g4⟩
        · exact e1
        · exact absurd g3 (by simp)
      have hflL : fl L = (2 * d + 1) :: (ds.map (2 * ·) ++ fl B) := by rw [eL]; rfl
      have hM2f := isM_f.mp hM2
      rw [hflL] at hM2f
      have hM2g : isMf (G2.1 628) (b + 359 + 31 * i) ([2 * c + 1] ++ (2 * d + 1) :: (ds.map (2 * ·) ++ fl B)) := hM2f
      have hd := mf_at hM2g
      have hd' : G2.1 628 (b + 359 + 31 * i + 1 + 1) = nI (2 * d + 1) := hd
      have hd999 : d < 32000 := (hk.2.2.2.1 d (by rw [eL]; simp)).1
      rw [if_pos (show (1 : Int32) < nI ((2 * c + 1) :: fl L).length from lp (a := 1) (by rw [hflL]; simp) (by rw [List.length_cons]; omega)), gg_Md_state, Option.bind_some, show nI (b + 359 + 31 * i + 1) + 1 = nI (b + 359 + 31 * i + 1 + 1) from nI_add _ 1, rr_Md_state _ (by omega), Option.bind_some, Option.bind_some, rr_Md_state _ (by omega), Option.bind_some, uu_Md_state _ (by omega), Option.bind_some, hd', show mm_rem (nI (2 * d + 1)) 2 = nI ((2 * d + 1) % 2) from n_rem (b := 2) (by omega) (by decide) (by decide), n_sub (by omega), show 2 * d + 1 - (2 * d + 1) % 2 = 2 * d by omega]
      have hM3f := mf_upd (2 * d) hM2g
      have hM3 : isM (gsi G2 628 (b + 359 + 31 * i + 1 + 1) (nI (2 * d))) (b + 359 + 31 * i) (fl (([] : LL) ++ (([] : List Nat) ++ c :: (d :: ds)) :: B)) := isM_a hM3f
      have qc : mdF (trR (b + 359 + 31 * i)) G2 (gsi G2 628 (b + 359 + 31 * i + 1 + 1) (nI (2 * d))) := mdF.cell ⟨by omega, by omega⟩
      obtain ⟨G3, r1, r2, r3⟩ := s_puts_156 (f := f1) (q := 0) (by rw [qc.1 624 (by decide) (by decide), hp2]; exact hp1) hpg hb hi hM3 hkM2 pB (by simp)
      refine ⟨G3, r1, by rw [p6]; exact r2, ?_, (q2.tr (qc.mono (fun k hk => Or.inr hk))).tr (r3.mono (fun k hk => Or.inr hk))⟩
      rw [r3.2.2.2 (b + 3) (fun h => by unfold trR at h; omega), qc.2.2.2 (b + 3) (fun h => by unfold trR at h; omega), hx2]
      exact hx1
  · -- behind some
    have hl1 : l1 ≠ [] := fun e => by
      have := p5 e
      subst e this
      exact z0 rfl
    obtain ⟨a, as, rfl⟩ := List.exists_cons_of_ne_nil hl1
    have eL : L = A ++ (a :: as ++ l2) :: B := by
      rcases e1 with e1 | ⟨g0, g1, g2, g3, g4⟩
      · exact e1
      · exact absurd g2 (by simp)
    have hz : ¬ nI (A.flatten.length + (a :: as).length) = (0 : Int32) := ln (n := 0) z0 (by omega) (by decide)
    rw [if_neg hz, uu_Md_state _ hbnd, Option.bind_some, gsi_gsa, if_neg hz, show (2 : Int32) * nI c + 0 = nI (2 * c + 0) by rw [show (2 : Int32) * nI c = nI (2 * c) from n_mul 2 c]; exact nI_add _ 0]
    have hflL : fl L = (fl A ++ fl1 (a :: as)) ++ (l2.map (2 * ·) ++ fl B) := by rw [eL, fl_app, fl_cons, fl1_app]; simp
    have hMf : isMf (G1.1 628) (b + 359 + 31 * i) ((fl A ++ fl1 (a :: as)) ++ (l2.map (2 * ·) ++ fl B)) := by rw [← hflL]; exact hM1
    have hins := mf_ins (2 * c) hMf
    rw [← hflL, List.length_append, fl_len A, fl1_len] at hins
    have hfl3 : (fl A ++ fl1 (a :: as)) ++ (2 * c) :: (l2.map (2 * ·) ++ fl B) = fl (A ++ (a :: as ++ c :: l2) :: B) := by rw [fl_app, fl_cons, fl1_app]; simp
    rw [hfl3] at hins
    have hM2 := isM_a (G := G1) hins
    have q2 := mdF.arr (G := G1) (offs (nI (2 * c)))
    obtain ⟨G3, r1, r2, r3⟩ := s_puts_156 (f := f1) (q := (a :: as).length) (by rw [q2.1 624 (by decide) (by decide)]; exact hp1) hpg hb hi hM2 hkM2 pB (by simp)
    refine ⟨G3, r1, by rw [p6]; exact r2, ?_, (q1.tr (q2.mono (fun k hk => Or.inr hk))).tr (r3.mono (fun k hk => Or.inr hk))⟩
    rw [r3.2.2.2 (b + 3) (fun h => by unfold trR at h; omega), q2.2.2.2 (b + 3) (fun h => by unfold trR at h; omega)]
    exact hx1
end MDP
