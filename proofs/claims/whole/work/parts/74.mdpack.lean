/-! THE REFERENCE: leaves joined -/
section MDJ
variable {G : GG} {b i page : Nat}
theorem fl_cut (A B : LL) (l c : List Nat) (z : Nat) : fl (A ++ l :: (z :: c) :: B) = (fl A ++ fl1 l) ++ (2 * z + 1) :: (c.map (2 * ·) ++ fl B) := by
  rw [fl_app, fl_cons, fl_cons]
  simp [fl1]
theorem fl_join (A B : LL) {l : List Nat} (c : List Nat) (z : Nat) (hl : l ≠ []) : fl (A ++ (l ++ z :: c) :: B) = (fl A ++ fl1 l) ++ (2 * z) :: (c.map (2 * ·) ++ fl B) := by
  obtain ⟨a, as, rfl⟩ := List.exists_cons_of_ne_nil hl
  rw [fl_app, fl_cons, fl1_app]
  simp
/-- within a leaf nothing is done -/
theorem packs_skip (hb : b ≤ 9252) (hi : i < 4) {A B : LL} {l : List Nat} (h : isM G (b + 359 + 31 * i) (fl (A ++ l :: B))) (hk : okM (fl (A ++ l :: B))) {v3 v4 v5 : Int32} : ∀ (j q f : Nat), q + j = l.length → 1 ≤ q → j < f → mm_run p_Md_packs f 46 [.ref 618, .int (nI b), .int (nI i), .int v3, .int v4, .int v5, .int (nI (A.flatten.length + q))] [] (hp G) = mm_run p_Md_packs (f - j) 46 [.ref 618, .int (nI b), .int (nI i), .int v3, .int v4, .int v5, .int (nI (A.flatten.length + l.length))] [] (hp G) := by
  have hlen : (fl (A ++ l :: B)).length = A.flatten.length + (l.length + B.flatten.length) := by rw [fl_len]; simp
  have h30 := hk.1
  intro j
  induction j with
  | zero => intro q f hq _ _; rw [show q = l.length by omega]; rfl
  | succ j ih =>
    intro q f hq hq1 hf
    obtain ⟨f, rfl⟩ : ∃ g, f = g + 1 := ⟨f - 1, by omega⟩
    have hlt : A.flatten.length + q < (fl (A ++ l :: B)).length := by omega
    have hev : ((fl (A ++ l :: B))[A.flatten.length + q] % 2 == 1) = false := by
      cases l with
      | nil => simp at hq
      | cons c cs =>
        obtain ⟨q, rfl⟩ : ∃ s, q = s + 1 := ⟨q - 1, by omega⟩
        simp only [List.length_cons] at hq
        have h1 := fl1_even c cs (q := q) (by omega)
        have h2 : (fl (A ++ (c :: cs) :: B))[A.flatten.length + (q + 1)]? = (fl1 (c :: cs))[q + 1]? := by
          rw [fl_app, fl_cons, List.getElem?_append_right (by rw [fl_len]; omega), fl_len, show A.flatten.length + (q + 1) - A.flatten.length = q + 1 by omega, List.getElem?_append_left (by rw [fl1_len, List.length_cons]; omega)]
        rw [List.getElem?_eq_getElem hlt, List.getElem?_eq_getElem (by rw [fl1_len, List.length_cons]; omega)] at h2
        rw [Option.some.inj h2, h1]
        rfl
    rw [e_Md_packs_46, s_Md_entries hb hi h, ci_some, if_pos (lp hlt (by omega)), s_Md_isFirst hb hi h hk hlt, ci_some, hev, if_pos (by decide), show nI (A.flatten.length + q) + 1 = nI (A.flatten.length + (q + 1)) from nI_add _ 1, ih (q + 1) f (by omega) (by omega) (by omega), show f + 1 - (j + 1) = f - j by omega]
theorem packs_loop (hpg : 2 ≤ page ∧ page ≤ 8) (hb : b ≤ 9252) (hi : i < 4) {v3 : Nat} (hv3 : v3 ≤ 30) : ∀ (r : LL) (G : GG) (A : LL) (l : List Nat) (f : Nat), G.1 624 0 = nI page → isM G (b + 359 + 31 * i) (fl (A ++ l :: r)) → okM (fl (A ++ l :: r)) → l ≠ [] → (∀ x ∈ A, x ≠ []) → (∀ x ∈ r, x ≠ []) → r.flatten.length + 1 < f → (pk page l r).length + A.length ≤ v3 → ∃ G', mm_run p_Md_packs f 46 [.ref 618, .int (nI b), .int (nI i), .int (nI v3), .int (nI (b + 359 + 31 * i + 1)), .int (nI A.flatten.length), .int (nI (A.flatten.length + l.length))] [] (hp G) = some (some (.int (nI (v3 - ((pk page l r).length + A.length)))), hp G') ∧ isM G' (b + 359 + 31 * i) (fl (A ++ pk page l r)) ∧ mdF (trR (b + 359 + 31 * i)) G G' := by
  intro r
  induction r with
  | nil =>
    intro G A l f hp0 h hk hl hA _ hf hle
    obtain ⟨f, rfl⟩ : ∃ g, f = g + 1 := ⟨f - 1, by omega⟩
    have hlen : (fl (A ++ [l])).length = A.flatten.length + l.length := by rw [fl_len]; simp
    have h30 := hk.1
    have hodd : ((fl (A ++ [l])).filter (fun x => x % 2 == 1)).length = A.length + 1 := by
      rw [fl_odd (fun x hx => by
        rcases List.mem_append.mp hx with q | q
        · exact hA x q
        · rw [List.mem_singleton] at q; rw [q]; exact hl)]
      simp
    have hpk : (pk page l []).length = 1 := rfl
    rw [e_Md_packs_46, s_Md_entries hb hi h, ci_some, if_neg (lm (by omega) (by omega)), s_Md_leaves hb hi h hk, ci_some, hodd, n_sub (by omega), hpk, Nat.add_comm 1]
    exact ⟨G, rfl, h, mdF.rf⟩
  | cons m r ih =>
    intro G A l f hp0 h hk hl hA hr hf hle
    obtain ⟨z, c, rfl⟩ := List.exists_cons_of_ne_nil (hr m List.mem_cons_self)
    obtain ⟨f, rfl⟩ : ∃ g, f = g + 1 := ⟨f - 1, by omega⟩
    have hrr : ∀ x ∈ r, x ≠ [] := fun x hx => hr x (List.mem_cons_of_mem _ hx)
    have hlen : (fl (A ++ l :: (z :: c) :: r)).length = A.flatten.length + l.length + (c.length + 1) + r.flatten.length := by rw [fl_len]; simp; omega
    have h30 := hk.1
    have hlt : A.flatten.length + l.length < (fl (A ++ l :: (z :: c) :: r)).length := by omega
    have e1 : fl (A ++ l :: (z :: c) :: r) = fl ((A ++ [l]) ++ (z :: c) :: r) := by rw [List.append_assoc]; rfl
    have eA : (A ++ [l]).flatten.length = A.flatten.length + l.length := by simp
    have hfst : ((fl (A ++ l :: (z :: c) :: r))[A.flatten.length + l.length] % 2 == 1) = true := by
      have h2 : (fl (A ++ l :: (z :: c) :: r))[A.flatten.length + l.length]? = some (2 * z + 1) := by
        rw [fl_cut, List.getElem?_append_right (by rw [List.length_append, fl_len, fl1_len]; omega), List.length_append, fl_len, fl1_len, Nat.sub_self]
        rfl
      rw [List.getElem?_eq_getElem hlt] at h2
      rw [Option.some.inj h2]
      simp
    have hh : highM (fl (A ++ l :: (z :: c) :: r)) (A.flatten.length + l.length) = A.flatten.length + l.length + (c.length + 1) := by
      have := high_fl (A := A ++ [l]) (B := r) (l := z :: c) hrr (q := 0) (by simp)
      rw [← e1, eA, Nat.add_zero] at this
      exact this
    rw [e_Md_packs_46, s_Md_entries hb hi h, ci_some, if_pos (lp hlt (by omega)), s_Md_isFirst hb hi h hk hlt, ci_some, hfst, if_neg (by decide), s_Md_leafAround hb hi h hk hlt, cv_some, gg_Md_high, Option.bind_some, hh]
    have e21 : (lhG G (lowM (fl (A ++ l :: (z :: c) :: r)) (A.flatten.length + l.length)) (A.flatten.length + l.length + (c.length + 1))).1 618 21 = nI (A.flatten.length + l.length + (c.length + 1)) := by unfold lhG; rw [gsi_i, if_pos rfl, upd_at]
    have q1 : mdF (trR (b + 359 + 31 * i)) G (lhG G (lowM (fl (A ++ l :: (z :: c) :: r)) (A.flatten.length + l.length)) (A.flatten.length + l.length + (c.length + 1))) := mdF.lh _ _
    have e628 : (lhG G (lowM (fl (A ++ l :: (z :: c) :: r)) (A.flatten.length + l.length)) (A.flatten.length + l.length + (c.length + 1))).1 628 = G.1 628 := by unfold lhG; rw [gsi_i, if_neg (by decide), gsi_i, if_neg (by decide)]
    rw [e21]
    generalize lhG G (lowM (fl (A ++ l :: (z :: c) :: r)) (A.flatten.length + l.length)) (A.flatten.length + l.length + (c.length + 1)) = G1 at *
    have hp1 : G1.1 624 0 = nI page := by rw [q1.1 624 (by decide) (by decide)]; exact hp0
    have hM1 : isM G1 (b + 359 + 31 * i) (fl (A ++ l :: (z :: c) :: r)) := by unfold isM; rw [e628]; exact h
    rw [s_Md_page hp1, ci_some, n_sub (by omega), show A.flatten.length + l.length + (c.length + 1) - A.flatten.length = l.length + (z :: c).length by rw [List.length_cons]; omega]
    have hrf : ((z :: c) :: r).flatten.length = c.length + 1 + r.flatten.length := by simp; omega
    by_cases hc : page < l.length + (z :: c).length
    · rw [if_pos (lp hc (by rw [List.length_cons]; omega)), pk_y hc, show nI (A.flatten.length + l.length) + 1 = nI ((A ++ [l]).flatten.length + 1) by rw [eA]; exact nI_add _ 1]
      rw [e1] at hM1 hk
      rw [packs_skip hb hi hM1 hk (l := z :: c) c.length 1 f (by rw [List.length_cons]; omega) (Nat.le_refl _) (by omega), ← eA]
      rw [pk_y hc, List.length_cons] at hle
      obtain ⟨G2, r1, r2, r3⟩ := ih G1 (A ++ [l]) (z :: c) (f - c.length) hp1 hM1 hk (by simp) (fun x hx => by
        rcases List.mem_append.mp hx with q | q
        · exact hA x q
        · rw [List.mem_singleton] at q; rw [q]; exact hl) hrr (by omega) (by rw [List.length_append]; simp only [List.length_cons, List.length_nil]; omega)
      refine ⟨G2, ?_, ?_, q1.tr r3⟩
      · rw [r1, List.length_append, List.length_cons]
        simp only [List.length_cons, List.length_nil]
        rw [show (pk page (z :: c) r).length + (A.length + (0 + 1)) = (pk page (z :: c) r).length + 1 + A.length by omega]
      · rw [List.append_assoc] at r2
        exact r2
    · have hMf : isMf (G1.1 628) (b + 359 + 31 * i) ((fl A ++ fl1 l) ++ (2 * z + 1) :: (c.map (2 * ·) ++ fl r)) := by rw [← fl_cut]; exact hM1
      have hxl : (fl A ++ fl1 l).length = A.flatten.length + l.length := by rw [List.length_append, fl_len, fl1_len]
      have hat := mf_at hMf
      have hu := mf_upd (2 * z) hMf
      rw [hxl] at hat hu
      rw [if_neg (lm (by omega) (by omega)), pk_n hc, gg_Md_state, Option.bind_some, i_add, rr_Md_state _ (by omega), Option.bind_some, hat, uu_Md_state _ (by omega), Option.bind_some, show nI (2 * z + 1) - 1 = nI (2 * z) from n_sub (b := 1) (by omega)]
      have hM2 := isM_a (G := G1) hu
      rw [← fl_join A r c z hl] at hM2
      have qc : mdF (trR (b + 359 + 31 * i)) G1 (gsi G1 628 (b + 359 + 31 * i + 1 + (A.flatten.length + l.length)) (nI (2 * z))) := mdF.cell ⟨by omega, by omega⟩
      have hM2' : isM (gsi G1 628 (b + 359 + 31 * i + 1 + (A.flatten.length + l.length)) (nI (2 * z))) (b + 359 + 31 * i) (fl (A ++ (l ++ z :: c) :: r)) := hM2
      generalize gsi G1 628 (b + 359 + 31 * i + 1 + (A.flatten.length + l.length)) (nI (2 * z)) = G2 at *
      have hsame : (fl (A ++ (l ++ z :: c) :: r)).length = (fl (A ++ l :: (z :: c) :: r)).length := by
        rw [fl_cut, fl_join A r c z hl]
        simp only [List.length_append, List.length_cons]
      have hall : ∀ x ∈ fl (A ++ l :: (z :: c) :: r), x < 64000 := fun x hx => by
        obtain ⟨j, hj, ej⟩ := List.mem_iff_getElem.mp hx
        rw [← ej]; exact hk.2 j hj
      have hall2 : ∀ x ∈ fl (A ++ (l ++ z :: c) :: r), x < 64000 := fun x hx => by
        rw [fl_cut] at hall
        rw [fl_join A r c z hl] at hx
        simp only [List.mem_append, List.mem_cons] at hx hall
        have hz := hall (2 * z + 1) (Or.inr (Or.inl rfl))
        rcases hx with q | q | q
        · exact hall _ (Or.inl q)
        · omega
        · exact hall _ (Or.inr (Or.inr q))
      have hk2 : okM (fl (A ++ (l ++ z :: c) :: r)) := ⟨by omega, fun k hk3 => hall2 _ (List.getElem_mem hk3)⟩
      have hp2 : G2.1 624 0 = nI page := by rw [qc.1 624 (by decide) (by decide)]; exact hp1
      rw [show nI (A.flatten.length + l.length) + 1 = nI (A.flatten.length + (l.length + 1)) from nI_add _ 1, packs_skip hb hi hM2' hk2 c.length (l.length + 1) f (by rw [List.length_append, List.length_cons]; omega) (by omega) (by omega)]
      rw [pk_n hc] at hle
      obtain ⟨G3, r1, r2, r3⟩ := ih G2 A (l ++ z :: c) (f - c.length) hp2 hM2' hk2 (by simp) hA hrr (by omega) hle
      exact ⟨G3, r1, r2, (q1.tr qc).tr r3⟩
/-- leaves joined, once it may be -/
theorem s_packs {L : LL} (hp0 : G.1 624 0 = nI page) (hb : b ≤ 9252) (hi : i < 4) (h : isM G (b + 359 + 31 * i) (fl L)) (hk : okL page L) : ∃ G', mm_run p_Md_packs mm_fu 46 [.ref 618, .int (nI b), .int (nI i), .int (nI L.length), .int (nI (b + 359 + 31 * i + 1)), .int 0, .int 1] [] (hp G) = some (some (.int (nI (L.length - (packL page L).length))), hp G') ∧ isM G' (b + 359 + 31 * i) (fl (packL page L)) ∧ mdF (trR (b + 359 + 31 * i)) G G' := by
  have hkM := okM_fl hk
  have h30 := hkM.1
  have hfu : 200 < mm_fu := fu_lt (by omega)
  cases L with
  | nil =>
    obtain ⟨f, hf⟩ : ∃ f, mm_fu = f + 1 := ⟨mm_fu - 1, by omega⟩
    rw [hf, e_Md_packs_46, s_Md_entries hb hi h, ci_some, if_neg (show ¬ (1 : Int32) < nI (fl []).length by decide), s_Md_leaves hb hi h hkM, ci_some]
    have e0 : nI ([] : LL).length - nI ((fl []).filter (fun x => x % 2 == 1)).length = nI (([] : LL).length - (packL page []).length) := by
      show nI 0 - nI 0 = nI 0
      decide
    rw [e0]
    exact ⟨G, rfl, h, mdF.rf⟩
  | cons l r =>
    have hl : l ≠ [] := (hk.2.2.1 l List.mem_cons_self).1
    have hrr : ∀ x ∈ r, x ≠ [] := fun x hx => (hk.2.2.1 x (List.mem_cons_of_mem _ hx)).1
    have hlen := hk.len
    have hpl := pk_len page r l
    have hfl : (fl (l :: r)).length = l.length + r.flatten.length := by rw [fl_len]; simp
    have hl1 : 1 ≤ l.length := List.length_pos_iff.mpr hl
    have hM : isM G (b + 359 + 31 * i) (fl ([] ++ l :: r)) := h
    have hs := packs_skip hb hi (A := []) hM hkM (v3 := nI (l :: r).length) (v4 := nI (b + 359 + 31 * i + 1)) (v5 := 0) (l.length - 1) 1 mm_fu (by omega) (Nat.le_refl _) (by omega)
    have hs' : mm_run p_Md_packs mm_fu 46 [.ref 618, .int (nI b), .int (nI i), .int (nI (l :: r).length), .int (nI (b + 359 + 31 * i + 1)), .int 0, .int 1] [] (hp G) = _ := hs
    rw [hs']
    obtain ⟨G', r1, r2, r3⟩ := packs_loop hk.1 hb hi (v3 := (l :: r).length) hlen r G [] l (mm_fu - (l.length - 1)) hp0 hM hkM hl (by simp) hrr (by omega) (by simp only [List.length_cons, List.length_nil] at hpl ⊢; omega)
    refine ⟨G', ?_, r2, r3⟩
    have r1' : mm_run p_Md_packs (mm_fu - (l.length - 1)) 46 [.ref 618, .int (nI b), .int (nI i), .int (nI (l :: r).length), .int (nI (b + 359 + 31 * i + 1)), .int 0, .int (nI (([] : LL).flatten.length + l.length))] [] (hp G) = _ := r1
    rw [r1', List.length_nil, Nat.add_zero]
    rfl
end MDJ
