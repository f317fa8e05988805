/-! STATE (the class): moveEntries -/
theorem tak_flat (c : Nat) : ∀ (L : LL), (takL c L).flatten = L.flatten.filter (fun x => !(x == c))
  | [] => rfl
  | l :: L => by
    have ih := tak_flat c L
    unfold takL at ih ⊢
    rw [List.map_cons, List.filter_cons, List.flatten_cons, List.filter_append, ← ih]
    split
    · rfl
    · rename_i h
      have : l.filter (fun x => !(x == c)) = [] := by simpa using h
      rw [this, List.nil_append]
theorem putL_mem {page c : Nat} {L : LL} (hk : okL page L) (hn : c ∉ L.flatten) {x : Nat} : x ∈ (putL page c L).flatten ↔ x = c ∨ x ∈ L.flatten := by
  by_cases h0 : L = []
  · subst h0; simp [putL]
  · obtain ⟨A, l1, l2, B, e1, p1, p2, p3, p4, p5, p6⟩ := put_dec page c L h0 (fun l hl => (hk.2.2.1 l hl).1) hk.2.2.2.2.1 hn
    rw [p6, e1]
    simp only [List.flatten_append, List.flatten_cons, spl_flat, List.mem_append, List.mem_cons]
    constructor
    · rintro (h | (h | h | h) | h)
      · exact Or.inr (Or.inl h)
      · exact Or.inr (Or.inr (Or.inl (Or.inl h)))
      · exact Or.inl h
      · exact Or.inr (Or.inr (Or.inl (Or.inr h)))
      · exact Or.inr (Or.inr (Or.inr h))
    · rintro (h | h | (h | h) | h)
      · exact Or.inr (Or.inl (Or.inr (Or.inl h)))
      · exact Or.inl h
      · exact Or.inr (Or.inl (Or.inl h))
      · exact Or.inr (Or.inl (Or.inr (Or.inr h)))
      · exact Or.inr (Or.inr h)
/-- an entry's value, or none -/
def isEn (x : Int32) : Prop := x = -1 ∨ ∃ v, v ≤ 999 ∧ x = nI v
/-- the JOB as it was, but for what is laid aside below i -/
def sameJ (i : Nat) (o o' : Option JB) : Prop := (o = none ∧ o' = none) ∨ ∃ J J', o = some J ∧ o' = some J' ∧ jAt J' = jAt J ∧ (i ≤ jAt J → jSd J' = jSd J)
theorem sameJ.at {i : Nat} {o o' : Option JB} (h : sameJ i o o') (k : Nat) : atO o' k = atO o k := by
  rcases h with ⟨rfl, rfl⟩ | ⟨J, J', rfl, rfl, e, -⟩
  · rfl
  · unfold atO; simp only [e]
theorem aL_lay (A : AS) (x : Int32) : aL (layA A x) = aL A := by
  unfold layA
  cases aJ A <;> rfl
theorem aJ_lay {A : AS} {J : JB} (h : aJ A = some J) (x : Int32) : aJ (layA A x) = some (jLay J x) := by
  unfold layA
  rw [h]
  rfl
theorem atO_some {A : AS} {i : Nat} (h : isAtA A i = true) : ∃ J, aJ A = some J ∧ jAt J = i := by
  unfold isAtA at h
  cases hj : aJ A with
  | none => rw [hj] at h; exact absurd h (by simp [atO])
  | some J => rw [hj] at h; exact ⟨J, rfl, by simpa [atO] using h⟩
section MVS
variable {G : GG} {s p : Nat} {P : PP} {A : AS}
theorem s_St_takeE (H : SS G s p P A) {i r : Nat} {x : Int32} (hi : i < pNi P) (hr : r < 30) (hx : isEn x) (hroom : x ≠ -1 → ∀ J, aJ A = some J → jAt J = i → (jSd J).length < 40) : ∃ G', f_St_takeEntry [.ref s, .int (nI i), .int (nI r), .int x] (hp G) = some (none, hp G') ∧ SS G' s p P (takeE P A i r x) ∧ eqOff (stR s) G G' := by
  unfold takeE
  rcases hx with rfl | ⟨v, hv, rfl⟩
  · rw [e_St_takeEntry s _ _ _ _ (ob_St G H.os), if_pos rfl, if_pos rfl]
    exact ⟨G, rfl, H, eqOff.rf⟩
  · have hne : ¬ nI v = (-1 : Int32) := n_m1 (by omega)
    rw [if_neg hne, nI_tn (by omega)]
    exact s_St_takeEntry H hi hr hv (hroom hne)
theorem s_St_putE (H : SS G s p P A) {i r : Nat} {x : Int32} (hi : i < pNi P) (hr : r < 30) (hx : isEn x) (hroom : x ≠ -1 → ∀ J, aJ A = some J → jAt J = i → (jSd J).length < 40) (hno : x ≠ -1 → isAtA A i = false → r ∉ (aL A i).flatten.map (· % 32)) : ∃ G', f_St_putEntry [.ref s, .int (nI i), .int (nI r), .int x] (hp G) = some (none, hp G') ∧ SS G' s p P (putE P A i r x) ∧ eqOff (stR s) G G' := by
  unfold putE
  rcases hx with rfl | ⟨v, hv, rfl⟩
  · rw [e_St_putEntry s _ _ _ _ (ob_St G H.os), if_pos rfl, if_pos rfl]
    exact ⟨G, rfl, H, eqOff.rf⟩
  · have hne : ¬ nI v = (-1 : Int32) := n_m1 (by omega)
    rw [if_neg hne, nI_tn (by omega)]
    exact s_St_putEntry H hi hr hv (hroom hne) (hno hne)
theorem takeE_L {i r j : Nat} {x : Int32} (h : j ≠ i) : aL (takeE P A i r x) j = aL A j := by
  unfold takeE
  split
  · rfl
  · unfold takeA
    split
    · rw [aL_lay]
    · show (if j = i then _ else aL (setX A _) j) = _
      rw [if_neg h]
      rfl
theorem putE_L {i r j : Nat} {x : Int32} (h : j ≠ i) : aL (putE P A i r x) j = aL A j := by
  unfold putE
  split
  · rfl
  · unfold putA
    split
    · rw [aL_lay]
    · show (if j = i then _ else aL (setX A _) j) = _
      rw [if_neg h]
      rfl
/-- what one that goes leaves of the JOB -/
theorem takeE_J {i r : Nat} {x : Int32} : (isAtA A i = false ∨ x = -1 → aJ (takeE P A i r x) = aJ A) ∧ ∀ J, aJ A = some J → jAt J = i → x ≠ -1 → ∃ y, aJ (takeE P A i r x) = some (jLay J y) := by
  unfold takeE
  constructor
  · intro h
    split
    · rfl
    · rename_i hx
      have h1 : isAtA A i = false := by
        rcases h with h | h
        · exact h
        · exact absurd h hx
      unfold takeA
      rw [h1]
      rfl
  · intro J hj ha hx
    rw [if_neg hx]
    unfold takeA
    have h1 : isAtA A i = true := by unfold isAtA atO; rw [hj]; simp [ha]
    rw [h1, if_pos rfl]
    exact ⟨_, aJ_lay hj _⟩
theorem putE_J {i r : Nat} {x : Int32} : (isAtA A i = false ∨ x = -1 → aJ (putE P A i r x) = aJ A) ∧ ∀ J, aJ A = some J → jAt J = i → x ≠ -1 → ∃ y, aJ (putE P A i r x) = some (jLay J y) := by
  unfold putE
  constructor
  · intro h
    split
    · rfl
    · rename_i hx
      have h1 : isAtA A i = false := by
        rcases h with h | h
        · exact h
        · exact absurd h hx
      unfold putA
      rw [h1]
      rfl
  · intro J hj ha hx
    rw [if_neg hx]
    unfold putA
    have h1 : isAtA A i = true := by unfold isAtA atO; rw [hj]; simp [ha]
    rw [h1, if_pos rfl]
    exact ⟨_, aJ_lay hj _⟩
/-- a step keeps the JOB where it is -/
theorem J_step {A' : AS} {i : Nat} {x : Int32} (h1 : isAtA A i = false ∨ x = -1 → aJ A' = aJ A) (h2 : ∀ J, aJ A = some J → jAt J = i → x ≠ -1 → ∃ y, aJ A' = some (jLay J y)) : sameJ (i + 1) (aJ A) (aJ A') := by
  by_cases hx : x = -1
  · rw [h1 (Or.inr hx)]
    cases aJ A with
    | none => exact Or.inl ⟨rfl, rfl⟩
    | some J => exact Or.inr ⟨J, J, rfl, rfl, rfl, fun _ => rfl⟩
  · cases ha : isAtA A i
    · rw [h1 (Or.inl ha)]
      cases aJ A with
      | none => exact Or.inl ⟨rfl, rfl⟩
      | some J => exact Or.inr ⟨J, J, rfl, rfl, rfl, fun _ => rfl⟩
    · obtain ⟨J, hj, hat⟩ := atO_some ha
      obtain ⟨y, hy⟩ := h2 J hj hat hx
      exact Or.inr ⟨J, jLay J y, hj, hy, rfl, fun hlt => by omega⟩
theorem sameJ.tr {i k : Nat} {o1 o2 o3 : Option JB} (h1 : sameJ i o1 o2) (h2 : sameJ k o2 o3) (hik : i ≤ k) : sameJ k o1 o3 := by
  rcases h1 with ⟨rfl, rfl⟩ | ⟨J, J', rfl, rfl, e, f⟩
  · rcases h2 with ⟨-, rfl⟩ | ⟨J, J', e, -⟩
    · exact Or.inl ⟨rfl, rfl⟩
    · exact absurd e (by simp)
  · rcases h2 with ⟨e1, -⟩ | ⟨K, K', e1, rfl, e2, f2⟩
    · exact absurd e1 (by simp)
    · have := Option.some.inj e1
      subst this
      exact Or.inr ⟨J, K', rfl, rfl, by rw [e2, e], fun h => by rw [f2 (by rw [e]; exact h), f (by omega)]⟩
theorem s_St_moveEntries (H : SS G s p P A) {E F : Nat → Int32} (hE : isE G (s + 14) E) (hF : isE G (s + 15) F) {r : Nat} (hr : r < 30) (hEn : ∀ i, i < pNi P → isEn (E i) ∧ isEn (F i)) (hfit : fitA P A E F = true) (hent : ∀ i, i < pNi P → isAtA A i = false → E i ≠ F i → F i ≠ -1 → ∀ c ∈ (aL A i).flatten, c % 32 = r → ∃ v, v ≤ 999 ∧ E i = nI v ∧ c = codD (dnP P i) v r) : ∃ G', f_St_moveEntries [.ref s, .int (nI r)] (hp G) = some (none, hp G') ∧ SS G' s p P (moveA P A E F r) ∧ eqOff (stR s) G G' := by
  have hn := H.ni
  rw [e_St_moveEntries s _ _ (ob_St G H.os)]
  have key : ∀ (j i f : Nat) (G1 : GG) (A1 : AS), i + j = pNi P → j < f → SS G1 s p P A1 → eqOff (stR s) G G1 → (∀ k, i ≤ k → aL A1 k = aL A k) → sameJ i (aJ A) (aJ A1) → ∃ G', mm_run p_St_moveEntries f 2 [.ref s, .int (nI r), .int (nI i)] [] (hp G1) = some (none, hp G') ∧ SS G' s p P (((List.range (pNi P)).drop i).foldl (moveE P E F r) A1) ∧ eqOff (stR s) G G' := by
    intro j
    induction j with
    | zero =>
      intro i f G1 A1 hj hf H1 q1 _ _
      obtain ⟨f, rfl⟩ : ∃ g, f = g + 1 := ⟨f - 1, by omega⟩
      rw [e_St_moveEntries_2, H1.gp, Option.bind_some, H1.gn, Option.bind_some, if_neg (lm (by omega) (by omega)), List.drop_of_length_le (by simp; omega)]
      exact ⟨G1, rfl, H1, q1⟩
    | succ j ih =>
      intro i f G1 A1 hj hf H1 q1 hL hJ
      obtain ⟨f, rfl⟩ : ∃ g, f = g + 1 := ⟨f - 1, by omega⟩
      have hi : i < pNi P := by omega
      have w14 : ∀ {G2 : GG}, eqOff (stR s) G G2 → isE G2 (s + 14) E ∧ isE G2 (s + 15) F := fun q => ⟨fun k hk => by rw [(q (s + 14) (fun h => h.2.1 rfl)).1]; exact hE k hk, fun k hk => by rw [(q (s + 15) (fun h => h.2.2 rfl)).1]; exact hF k hk⟩
      rw [e_St_moveEntries_2, H1.gp, Option.bind_some, H1.gn, Option.bind_some, if_pos (lp hi (by omega)), gg_St_was _ H1.os, Option.bind_some, rr_St_was _ H1.os (by omega), Option.bind_some, (w14 q1).1 i (by omega), gg_St_willBe _ H1.os, Option.bind_some, rr_St_willBe _ H1.os (by omega), Option.bind_some, (w14 q1).2 i (by omega), show nI i + 1 = nI (i + 1) from nI_add i 1, drop_cons (l := List.range (pNi P)) (i := i) (by simpa using hi), List.foldl_cons, List.getElem_range]
      by_cases e : E i = F i
      · rw [if_pos e, show moveE P E F r A1 i = A1 from if_pos e]
        exact ih (i + 1) f G1 A1 (by omega) (by omega) H1 q1 (fun k hk => hL k (by omega)) (hJ.tr (k := i + 1) (by
          cases aJ A1 with
          | none => exact Or.inl ⟨rfl, rfl⟩
          | some J => exact Or.inr ⟨J, J, rfl, rfl, rfl, fun _ => rfl⟩) (by omega))
      · rw [if_neg e, show moveE P E F r A1 i = putE P (takeE P A1 i r (E i)) i r (F i) from if_neg e, Option.bind_some, rr_St_was _ H1.os (by omega), Option.bind_some, (w14 q1).1 i (by omega)]
        have hroom : ∀ J, aJ A1 = some J → jAt J = i → (jSd J).length + moreE E F i ≤ 40 := fun J hj1 ha => by
          rcases hJ with ⟨e1, e2⟩ | ⟨K, K', e1, e2, e3, e4⟩
          · rw [e2] at hj1; exact absurd hj1 (by simp)
          · rw [e2] at hj1
            have := Option.some.inj hj1
            subst this
            rw [e4 (by omega)]
            unfold fitA at hfit
            rw [e1] at hfit
            simp only [Bool.or_eq_true, Bool.not_eq_true', decide_eq_false_iff_not, decide_eq_true_eq] at hfit
            rw [← e3, ha] at hfit
            rcases hfit with h | h
            · exact absurd hi h
            · exact h
        have hmore : moreE E F i = (if E i = -1 then 0 else 1) + (if F i = -1 then 0 else 1) := by unfold moreE; rw [if_neg e]
        obtain ⟨G2, t1, t2, t3⟩ := s_St_takeE H1 hi hr (hEn i hi).1 (fun hx J hj1 ha => by
          have := hroom J hj1 ha
          rw [hmore, if_neg hx] at this
          omega)
        have tJ := takeE_J (P := P) (A := A1) (i := i) (r := r) (x := E i)
        have sJ := J_step tJ.1 tJ.2
        have q2 := q1.tr t3
        rw [t1, cv_some, gg_St_willBe _ H1.os, Option.bind_some, rr_St_willBe _ H1.os (by omega), Option.bind_some, (w14 q2).2 i (by omega)]
        have hat : isAtA (takeE P A1 i r (E i)) i = isAtA A i := by unfold isAtA; rw [(hJ.tr sJ (by omega)).at]
        have hat1 : isAtA A1 i = isAtA A i := by unfold isAtA; rw [hJ.at]
        obtain ⟨G3, u1, u2, u3⟩ := s_St_putE t2 hi hr (hEn i hi).2 (fun hx J hj1 ha => by
          by_cases hE1 : E i = -1
          · rw [tJ.1 (Or.inr hE1)] at hj1
            have := hroom J hj1 ha
            rw [hmore, if_neg hx] at this
            omega
          · cases hA : aJ A1 with
            | none =>
              have h0 : isAtA A1 i = false := by unfold isAtA atO; rw [hA]
              rw [tJ.1 (Or.inl h0), hA] at hj1
              exact absurd hj1 (by simp)
            | some K =>
              by_cases hK : jAt K = i
              · obtain ⟨y, hy⟩ := tJ.2 K hA hK hE1
                rw [hy] at hj1
                have := Option.some.inj hj1
                subst this
                have := hroom K hA hK
                rw [hmore, if_neg hx, if_neg hE1] at this
                show (jSd K ++ [y]).length < 40
                rw [List.length_append]
                simp only [List.length_cons, List.length_nil]
                omega
              · have h0 : isAtA A1 i = false := by unfold isAtA atO; rw [hA]; simp [hK]
                rw [tJ.1 (Or.inl h0), hA] at hj1
                have := Option.some.inj hj1
                subst this
                exact absurd ha hK) (fun hx h0 hm => by
          rw [hat] at h0
          obtain ⟨c, hc, hcr⟩ := List.mem_map.mp hm
          have hAi : aL A1 i = aL A i := hL i (Nat.le_refl _)
          have hcA : c ∈ (aL A i).flatten ∧ (∀ v, v ≤ 999 → E i = nI v → c ≠ codD (dnP P i) v r) := by
            unfold takeE at hc
            by_cases hE1 : E i = -1
            · rw [if_pos hE1, hAi] at hc
              exact ⟨hc, fun v hv ev => absurd (ev.symm.trans hE1) (n_m1 (by omega))⟩
            · rw [if_neg hE1] at hc
              unfold takeA at hc
              rw [hat1, h0, if_neg (by decide)] at hc
              have hc2 : c ∈ (takL (codD (dnP P i) (E i).toNatClampNeg r) (aL A1 i)).flatten := by
                have e5 : aL (setL (setX A1 (aX A1 + costA P A1 i)) i (takL (codD (dnP P i) (E i).toNatClampNeg r) (aL A1 i))) i = takL (codD (dnP P i) (E i).toNatClampNeg r) (aL A1 i) := if_pos rfl
                rw [e5] at hc
                exact hc
              rw [tak_flat, hAi] at hc2
              have hc3 := List.mem_filter.mp hc2
              refine ⟨hc3.1, fun v hv ev q => ?_⟩
              rw [ev, nI_tn (by omega)] at hc3
              have := hc3.2
              rw [q] at this
              simp at this
          obtain ⟨v, hv, ev, ec⟩ := hent i hi h0 e hx c hcA.1 hcr
          exact hcA.2 v hv ev ec)
        rw [u1, cv_some]
        have pJ := putE_J (P := P) (A := takeE P A1 i r (E i)) (i := i) (r := r) (x := F i)
        exact ih (i + 1) f G3 _ (by omega) (by omega) u2 (q2.tr u3) (fun k hk => by rw [putE_L (by omega), takeE_L (by omega)]; exact hL k (by omega)) ((hJ.tr sJ (by omega)).tr (J_step pJ.1 pJ.2) (Nat.le_refl _))
  exact key (pNi P) 0 mm_fu G A (by omega) (fu_lt (by omega)) H eqOff.rf (fun _ _ => rfl) (by
    cases aJ A with
    | none => exact Or.inl ⟨rfl, rfl⟩
    | some J => exact Or.inr ⟨J, J, rfl, rfl, rfl, fun _ => rfl⟩)
end MVS
