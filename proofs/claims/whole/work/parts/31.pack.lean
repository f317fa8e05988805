/-! Leaves: takeTogether, clear, become -/
theorem n_min {a b : Nat} (ha : a < 2147483648) (hb : b < 2147483648) : mm_min (nI a) (nI b) = nI (if b < a then b else a) := by
  unfold mm_min
  by_cases h : b < a
  · rw [if_pos h, if_pos (by rw [n_lt hb ha]; exact h)]
  · rw [if_neg h, if_neg (by rw [n_lt hb ha]; exact h)]
theorem n_max {a b : Nat} (ha : a < 2147483648) (hb : b < 2147483648) : mm_max (nI a) (nI b) = nI (if a < b then b else a) := by
  unfold mm_max
  by_cases h : a < b
  · rw [if_pos h, if_pos (by rw [n_lt ha hb]; exact h)]
  · rw [if_neg h, if_neg (by rw [n_lt ha hb]; exact h)]
theorem pk_y {page : Nat} {l m : List Nat} {r : LL} (h : page < l.length + m.length) : pk page l (m :: r) = l :: pk page m r := by rw [pk, if_pos h]
theorem pk_n {page : Nat} {l m : List Nat} {r : LL} (h : ¬ page < l.length + m.length) : pk page l (m :: r) = pk page (l ++ m) r := by rw [pk, if_neg h]
theorem pk_flat (page : Nat) : ∀ (r : LL) (l : List Nat), (pk page l r).flatten = l ++ r.flatten
  | [], l => by simp [pk]
  | m :: r, l => by
    unfold pk
    split
    · simp [pk_flat page r m]
    · rw [pk_flat page r]; simp
theorem pack_flat (page : Nat) (L : LL) : (packL page L).flatten = L.flatten := by
  cases L with
  | nil => rfl
  | cons l r => exact pk_flat page r l
theorem pk_len (page : Nat) : ∀ (r : LL) (l : List Nat), 1 ≤ (pk page l r).length ∧ (pk page l r).length ≤ r.length + 1
  | [], l => by simp [pk]
  | m :: r, l => by
    unfold pk
    split
    · have := pk_len page r m
      simp only [List.length_cons]
      omega
    · have := pk_len page r (l ++ m)
      simp only [List.length_cons]
      omega
theorem pk_mem (page : Nat) : ∀ (r : LL) (l : List Nat), l ≠ [] → l.length ≤ page → (∀ x ∈ r, x ≠ [] ∧ x.length ≤ page) → ∀ x ∈ pk page l r, x ≠ [] ∧ x.length ≤ page
  | [], l, h1, h2, _, x, hx => by
    simp only [pk, List.mem_singleton] at hx
    subst hx
    exact ⟨h1, h2⟩
  | m :: r, l, h1, h2, h3, x, hx => by
    unfold pk at hx
    have hm := h3 m (by simp)
    split at hx
    · rcases List.mem_cons.mp hx with rfl | hx
      · exact ⟨h1, h2⟩
      · exact pk_mem page r m hm.1 hm.2 (fun y hy => h3 y (List.mem_cons_of_mem _ hy)) x hx
    · rename_i hq
      exact pk_mem page r (l ++ m) (by simp [h1]) (by rw [List.length_append]; omega) (fun y hy => h3 y (List.mem_cons_of_mem _ hy)) x hx
theorem pack_ok {page : Nat} {L : LL} (hk : okL page L) : okL page (packL page L) := by
  obtain ⟨a1, a2, a3, a4, a5, a6⟩ := hk
  refine ⟨a1, by rw [pack_flat]; exact a2, ?_, by rw [pack_flat]; exact a4, by rw [pack_flat]; exact a5, by rw [pack_flat]; exact a6⟩
  intro x hx
  cases L with
  | nil => simp [packL] at hx
  | cons l r =>
    have hl := a3 l (by simp)
    exact pk_mem page r l hl.1 hl.2 (fun y hy => a3 y (List.mem_cons_of_mem _ hy)) x hx
section PAC
variable {G : GG} {t page : Nat} {down : Bool} {L : LL}
theorem tt_loop (ho : okLv t) (hp8 : 2 ≤ page ∧ page ≤ 8) {n : Nat} (hn : n ≤ 30) : ∀ (r : LL) (A : List Nat) (l : List Nat) (i f : Nat) (z : Nat → Int32), A.length < i → i + r.length = n → r.length < f → (∀ x ∈ r, x.length ≤ 30) → l.length ≤ 60 → hold z (A ++ [l.length]) → (∀ j (hj : j < r.length), z (i + j) = nI r[j].length) → G.1 t 4 = nI page →
    ∃ z', mm_run p_Lv_takeTogether f 9 [.ref t, .int (nI n), .int (nI A.length), .int (nI i)] [] (hp (gsa G (t + 2) z)) = some (some (.int (nI (n - (A.length + (pk page l r).length)))), hp (gsi (gsa G (t + 2) z') t 3 (nI (A.length + (pk page l r).length)))) ∧ hold z' (A ++ (pk page l r).map List.length) := by
  intro r
  induction r with
  | nil =>
    intro A l i f z hA hin hf hr hl hz hzr hpg
    obtain ⟨f, rfl⟩ : ∃ g, f = g + 1 := ⟨f - 1, by simp at hf; omega⟩
    simp only [List.length_nil, Nat.add_zero] at hin
    rw [e_Lv_takeTogether_9, if_neg (by rw [n_lt (by omega) (by omega)]; omega)]
    simp (disch := omega) only [n_lit, nI_add, n_min, ww_Lv_leaves _ ho, gg_Lv_leaves _ ho, Option.bind_some, gsi_i, if_true, upd_at]
    refine ⟨z, ?_, by simpa [pk] using hz⟩
    have e1 : (if A.length + 1 < n then A.length + 1 else n) = A.length + 1 := by
      split
      · rfl
      · omega
    have e2 : A.length + (pk page l []).length = A.length + 1 := by simp [pk]
    rw [e1, e2, n_sub (by omega)]
  | cons m r ih =>
    intro A l i f z hA hin hf hr hl hz hzr hpg
    simp only [List.length_cons] at hin hf
    obtain ⟨f, rfl⟩ : ∃ g, f = g + 1 := ⟨f - 1, by omega⟩
    have hm := hr m (by simp)
    have n1 : t ≠ t + 2 := by omega
    have ez : z A.length = nI l.length := hold_at hz
    have ez2 : z i = nI m.length := by have := hzr 0 (by simp); simpa using this
    rw [e_Lv_takeTogether_9, if_pos (by rw [n_lt (by omega) (by omega)]; omega)]
    simp (disch := omega) only [gg_Lv_size _ ho, gg_Lv_page _ ho, rr_Lv_size _ ho, Option.bind_some, gsa_i, if_true, if_neg n1, hpg, ez, ez2, nI_add, n_lt]
    by_cases hc : page < l.length + m.length
    · rw [if_pos hc]
      simp (disch := omega) only [n_lit, nI_add, uu_Lv_size _ ho, Option.bind_some, gsi_gsa, gsa_i, if_true]
      have hlA : (A ++ [l.length]).length = A.length + 1 := by simp
      have := ih (A ++ [l.length]) m (i + 1) f (upd z (A.length + 1) (nI m.length)) (by omega) (by omega) (by omega) (fun x hx => hr x (List.mem_cons_of_mem _ hx)) (by omega) ?_ ?_ hpg
      · obtain ⟨z', q1, q2⟩ := this
        rw [hlA] at q1
        refine ⟨z', ?_, ?_⟩
        · rw [q1, pk_y hc]
          simp only [List.length_cons]
          rw [show A.length + 1 + (pk page m r).length = A.length + ((pk page m r).length + 1) by omega]
        · rw [pk_y hc]
          simpa using q2
      · intro k hk
        simp only [List.length_append, List.length_cons, List.length_nil] at hk
        by_cases hk2 : k = A.length + 1
        · subst hk2
          rw [upd_at, List.getElem_append_right (by simp)]
          simp
        · rw [upd_ne _ _ hk2, List.getElem_append_left (by simp; omega)]
          exact hz k (by simp; omega)
      · intro j hj
        rw [upd_ne _ _ (by omega)]
        have := hzr (j + 1) (by simp; omega)
        rw [show i + 1 + j = i + (j + 1) by omega, this]
        simp
    · rw [if_neg hc]
      simp (disch := omega) only [n_lit, nI_add, uu_Lv_size _ ho, Option.bind_some, gsi_gsa, gsa_i, if_true]
      have := ih A (l ++ m) (i + 1) f (upd z A.length (nI (l.length + m.length))) (by omega) (by omega) (by omega) (fun x hx => hr x (List.mem_cons_of_mem _ hx)) (by rw [List.length_append]; omega) ?_ ?_ hpg
      · obtain ⟨z', q1, q2⟩ := this
        refine ⟨z', ?_, ?_⟩
        · rw [q1, pk_n hc]
        · rw [pk_n hc]
          exact q2
      · rw [List.length_append]
        exact hold_upd _ hz
      · intro j hj
        rw [upd_ne _ _ (by omega)]
        have := hzr (j + 1) (by simp; omega)
        rw [show i + 1 + j = i + (j + 1) by omega, this]
        simp
theorem s_Lv_takeTogether (ho : okLv t) (hi : isLv G t page down L) (hk : okL page L) : ∃ G', f_Lv_takeTogether [.ref t] (hp G) = some (some (.int (nI (L.length - (packL page L).length))), hp G') ∧ isLv G' t page down (packL page L) ∧ eqOff (inR t (t + 3)) G G' := by
  have hlen := hk.len
  obtain ⟨⟨i2, i3, i4, i5⟩, iE, iZ⟩ := isLv_iff.mp hi
  rw [e_Lv_takeTogether t _ (ob_Lv G ho)]
  simp (disch := omega) only [gg_Lv_leaves _ ho, i3, Option.bind_some]
  cases L with
  | nil =>
    obtain ⟨f, hf⟩ : ∃ f, mm_fu = f + 1 := ⟨mm_fu - 1, by have := fu_lt (n := 1) (by decide); omega⟩
    rw [hf, e_Lv_takeTogether_9, if_neg (by decide)]
    simp (disch := omega) only [ww_Lv_leaves _ ho, gg_Lv_leaves _ ho, Option.bind_some, gsi_i, if_true, upd_at]
    have em : mm_min (nI ([] : LL).length) (0 + 1) = nI 0 := rfl
    rw [em, n_sub (Nat.zero_le _)]
    refine ⟨gsi G t 3 (nI 0), rfl, ?_, ?_⟩
    rotate_left
    · exact eqOff.gsi _ _ ⟨by omega, by omega⟩
    have n1 : t + 1 ≠ t := by omega
    have n2 : t + 2 ≠ t := by omega
    rw [isLv_iff]
    simp only [gsi_i, if_true, if_neg n1, if_neg n2, upd_at, upd_ne _ _ (show (2 : Nat) ≠ 3 by decide), upd_ne _ _ (show (4 : Nat) ≠ 3 by decide), upd_ne _ _ (show (5 : Nat) ≠ 3 by decide)]
    exact ⟨⟨i2, rfl, i4, i5⟩, iE, iZ⟩
  | cons l r =>
    simp only [List.length_cons] at hlen
    have hl8 : ∀ x ∈ l :: r, x.length ≤ 30 := fun x hx => by have := (hk.2.2.1 x hx).2; have := hk.1; omega
    have h1 : hold (G.1 (t + 2)) ([] ++ [l.length]) := fun k hk2 => by
      have : k = 0 := by simp at hk2; omega
      subst this
      exact iZ 0 (by simp)
    obtain ⟨z', q1, q2⟩ := tt_loop (G := G) ho hk.1 hlen r [] l 1 mm_fu (G.1 (t + 2)) (by simp) (by omega) (fu_lt (by omega)) (fun x hx => hl8 x (List.mem_cons_of_mem _ hx)) (by have := hl8 l (by simp); omega) h1 (fun j hj => by
      have := iZ (1 + j) (by simp; omega)
      rw [this, List.getElem_map]
      congr 2
      simp [Nat.add_comm 1 j]) i4
    rw [gsa_self] at q1
    simp only [List.length_nil, Nat.zero_add, List.nil_append] at q1 q2
    refine ⟨_, q1, ?_, (eqOff.gsa _ ⟨by omega, by omega⟩).tr (eqOff.gsi _ _ ⟨by omega, by omega⟩)⟩
    have n1 : t + 1 ≠ t := by omega
    have n2 : t + 2 ≠ t := by omega
    have n3 : t ≠ t + 2 := by omega
    have n4 : t + 1 ≠ t + 2 := by omega
    rw [isLv_iff]
    simp only [gsi_i, gsa_i, if_true, if_neg n1, if_neg n2, if_neg n3, if_neg n4, upd_at, upd_ne _ _ (show (2 : Nat) ≠ 3 by decide), upd_ne _ _ (show (4 : Nat) ≠ 3 by decide), upd_ne _ _ (show (5 : Nat) ≠ 3 by decide), pack_flat]
    exact ⟨⟨i2, rfl, i4, i5⟩, iE, q2⟩
theorem s_Lv_clear (ho : okLv t) (page' : Nat) (down' : Bool) : ∃ G', f_Lv_clear [.ref t, .int (nI page'), .int (if down' then 1 else 0)] (hp G) = some (none, hp G') ∧ isLv G' t page' down' [] ∧ eqOff (inR t (t + 3)) G G' := by
  rw [e_Lv_clear t _ _ _ (ob_Lv G ho)]
  simp (disch := omega) only [ww_Lv_entries _ ho, ww_Lv_leaves _ ho, ww_Lv_page _ ho, ww_Lv_down _ ho, Option.bind_some]
  rw [if_pos (by cases down' <;> simp)]
  refine ⟨_, rfl, ?_, ?_⟩
  · refine ⟨⟨?_, ?_, ?_, ?_⟩, fun i hi => by simp at hi, fun i hi => by simp at hi⟩
    · simp only [gsi_i, if_true, upd_at, upd_ne _ _ (show (2 : Nat) ≠ 5 by decide), upd_ne _ _ (show (2 : Nat) ≠ 4 by decide), upd_ne _ _ (show (2 : Nat) ≠ 3 by decide)]; rfl
    · simp only [gsi_i, if_true, upd_at, upd_ne _ _ (show (3 : Nat) ≠ 5 by decide), upd_ne _ _ (show (3 : Nat) ≠ 4 by decide)]; rfl
    · simp only [gsi_i, if_true, upd_at, upd_ne _ _ (show (4 : Nat) ≠ 5 by decide)]
    · simp only [gsi_i, if_true, upd_at]
  · exact (((eqOff.gsi _ _ ⟨by omega, by omega⟩).tr (eqOff.gsi _ _ ⟨by omega, by omega⟩)).tr (eqOff.gsi _ _ ⟨by omega, by omega⟩)).tr (eqOff.gsi _ _ ⟨by omega, by omega⟩)
theorem s_Lv_become {u : Nat} (ho : okLv t) (ho' : okLv u) (hne : u + 3 ≤ t ∨ t + 3 ≤ u) (hi : isLv G u page down L) (hk : okL page L) : ∃ G', f_Lv_become [.ref t, .ref u] (hp G) = some (none, hp G') ∧ isLv G' t page down L ∧ eqOff (inR t (t + 3)) G G' := by
  have hlen := hk.len
  have hn := hk.2.1
  obtain ⟨⟨i2, i3, i4, i5⟩, iE, iZ⟩ := isLv_iff.mp hi
  rw [e_Lv_become t _ _ (ob_Lv G ho)]
  have m1 : u ≠ t + 1 := by omega
  have m2 : u ≠ t + 2 := by omega
  have m3 : u ≠ t := by omega
  have m4 : u + 2 ≠ t + 1 := by omega
  simp (disch := omega) only [gg_Lv_entry _ ho, gg_Lv_entry _ ho', gg_Lv_size _ ho, gg_Lv_size _ ho', Option.bind_some, n_lit, hp_cp ho'.2.1 ho.2.1 (Nat.le_refl 30) (Nat.le_refl 30) (by decide), hp_cp ho'.2.2 ho.2.2 (Nat.le_refl 30) (Nat.le_refl 30) (by decide), gg_Lv_entries _ ho', gg_Lv_leaves _ ho', gg_Lv_page _ ho', gg_Lv_down _ ho', ww_Lv_entries _ ho, ww_Lv_leaves _ ho, ww_Lv_page _ ho, ww_Lv_down _ ho, gsi_i, gsa_i, if_neg m1, if_neg m2, if_neg m3, if_neg m4, i2, i3, i4, i5]
  rw [if_pos (by cases down <;> simp [n_lit])]
  refine ⟨_, rfl, ?_, ?_⟩
  · have n1 : t + 1 ≠ t := by omega
    have n2 : t + 2 ≠ t := by omega
    have n4 : t + 1 ≠ t + 2 := by omega
    have n5 : t + 2 ≠ t + 1 := by omega
    rw [isLv_iff]
    simp only [gsi_i, gsa_i, if_true, if_neg n1, if_neg n2, if_neg n4, if_neg n5, upd_at, upd_ne _ _ (show (2 : Nat) ≠ 5 by decide), upd_ne _ _ (show (2 : Nat) ≠ 4 by decide), upd_ne _ _ (show (2 : Nat) ≠ 3 by decide), upd_ne _ _ (show (3 : Nat) ≠ 5 by decide), upd_ne _ _ (show (3 : Nat) ≠ 4 by decide), upd_ne _ _ (show (4 : Nat) ≠ 5 by decide)]
    refine ⟨⟨trivial, trivial, trivial, rfl⟩, iE.cong (fun i hi => ?_), iZ.cong (fun i hi => ?_)⟩
    · rw [if_pos (by omega)]
    · rw [if_pos (by simp at hi; omega)]
  · exact (((((eqOff.gsa _ ⟨by omega, by omega⟩).tr (eqOff.gsa _ ⟨by omega, by omega⟩)).tr (eqOff.gsi _ _ ⟨by omega, by omega⟩)).tr (eqOff.gsi _ _ ⟨by omega, by omega⟩)).tr (eqOff.gsi _ _ ⟨by omega, by omega⟩)).tr (eqOff.gsi _ _ ⟨by omega, by omega⟩)
end PAC
