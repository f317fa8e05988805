/-! THE REFERENCE: a line of the WORK -/
def isMLi (G : GG) (i0 : Nat) (t : LI) : Prop := G.1 627 i0 = nI (t.1 - 9) ∧ (t.1 = 9 ∨ t.1 = 10 ∨ t.1 = 11 ∨ t.1 = 13 ∨ t.1 = 17 → G.1 627 (i0 + 1) = nI t.2.1) ∧ (t.1 = 9 ∨ t.1 = 11 → G.1 627 (i0 + 2) = nI t.2.2.1 ∧ G.1 627 (i0 + 3) = nI t.2.2.2)
def isMLn (G : GG) (W : List LI) : Prop := G.1 627 0 = nI W.length ∧ ∀ i (h : i < W.length), isMLi G (1 + 4 * i) W[i]
theorem neg_b {x : Int32} (hx : x = -1 ∨ ∃ n, n < 2147483648 ∧ x = nI n) (h : mm_H) : (if x < 0 then (some (some (.int 0), h) : Option (Option Value × mm_H)) else some (some (.int 1), h)) = some (some (.int (b2 (!decide (x = -1)))), h) := by
  rcases hx with e | ⟨n, hn, e⟩
  · rw [e, if_pos (by decide), decide_eq_true rfl]; rfl
  · rw [e, if_neg (n_nneg hn), decide_eq_false (n_m1 hn)]; rfl
theorem bc_le (x : Int32) : bc x ≤ 32 := by
  unfold bc
  refine Nat.le_trans (List.length_filter_le _ _) ?_
  simp
section MDI
variable {G : GG} {b : Nat} {P : PP} {A : AS} {t : LI}
theorem m_begunOfAll (H : MS G b P A) (h : INV P A) : ∃ G', f_Md_begunOfAll [.ref 618, .int (nI b)] (hp G) = some (some (.int (begO A (wouldA P A))), hp G') ∧ MS G' b P (lauO P A (wouldA P A)).2 ∧ mdF (mB b) G G' := by
  obtain ⟨G', r1, r2, r3⟩ := m_begun H h (x := wouldA P A) (fun r hr => would_vis h hr)
  rw [e_Md_begunOfAll 618 _ _ (ob_Md G), m_wouldChoose H h, ci_some, r1, ci_some]
  exact ⟨G', rfl, r2, r3⟩
theorem admO_ans (h : INV P A) (x y z : Nat) : (admO P A x y z).1 = -1 ∨ ∃ n, n < 2147483648 ∧ (admO P A x y z).1 = nI n := by
  have := h.kr.1
  unfold admO
  cases canAdm P A x y z
  · exact Or.inl rfl
  · exact Or.inr ⟨aM A, by omega, rfl⟩
theorem fallO_ans (h : INV P A) : (fallO P A).1 = -1 ∨ ∃ n, n < 2147483648 ∧ (fallO P A).1 = nI n := by
  unfold fallO
  cases hJ : aJ A with
  | none => exact Or.inl rfl
  | some J =>
    dsimp only
    have hk := h.ka.2.2.2
    rw [hJ] at hk
    obtain ⟨-, -, -, -, k5, -⟩ := (show okJ J from hk)
    cases jDn J
    · exact Or.inr ⟨jSi J, by omega, rfl⟩
    · exact Or.inl rfl
theorem left_he (A' : AS) : leftHere P A' ≤ 32 := by
  unfold leftHere
  split
  · omega
  · split
    · exact bc_le _
    · omega
theorem m_lineDone (H : MS G b P A) (h : INV P A) {i0 : Nat} (hi : i0 + 3 < 321) (hL : isMLi G i0 t) (ht : okLi P t) : ∃ G', f_Md_lineDone [.ref 618, .int (nI b), .int (nI i0)] (hp G) = some (some (.int (b2 (playO P A t).1)), hp G') ∧ MS G' b P (playO P A t).2 ∧ mdE (mB b) G G' := by
  obtain ⟨⟨w1, w2⟩, h9, h10, h11, h13, h17⟩ := ht
  obtain ⟨l1, l2, l3⟩ := hL
  have hn := h.ni
  rw [e_Md_lineDone 618 _ _ _ (ob_Md G), gg_Md_lines, Option.bind_some, show nI i0 + 1 = nI (i0 + 1) from nI_add _ 1, rr_Md_lines _ (by omega), Option.bind_some, Option.bind_some, rr_Md_lines _ (by omega), Option.bind_some, l1]
  have ne : ∀ k, k < 100 → t.1 - 9 ≠ k → ¬ nI (t.1 - 9) = nI k := fun k hk e => ln e (by omega) (by omega)
  have rd2' : mm_li (hp G) 627 (nI i0 + 2) = some (G.1 627 (i0 + 2)) := by rw [show nI i0 + 2 = nI (i0 + 2) from nI_add _ 2, rr_Md_lines _ (by omega)]
  have rd3' : mm_li (hp G) 627 (nI i0 + 3) = some (G.1 627 (i0 + 3)) := by rw [show nI i0 + 3 = nI (i0 + 3) from nI_add _ 3, rr_Md_lines _ (by omega)]
  unfold playO
  by_cases c9 : t.1 = 9
  · obtain ⟨a, c, d⟩ := h9 c9
    rw [if_pos c9, if_pos (show nI (t.1 - 9) = (0 : Int32) from lq (n := 0) (by omega)), Option.bind_some, rd2', Option.bind_some, Option.bind_some, rd3', Option.bind_some, l2 (Or.inl c9), (l3 (Or.inl c9)).1, (l3 (Or.inl c9)).2]
    obtain ⟨G', r1, r2, r3⟩ := m_inserted H h a c d
    rw [r1, ci_some, neg_b (admO_ans h _ _ _)]
    exact ⟨G', rfl, r2, r3.e⟩
  · rw [if_neg c9, if_neg (show ¬ nI (t.1 - 9) = (0 : Int32) from ne 0 (by omega) (by omega))]
    by_cases c10 : t.1 = 10
    · rw [if_pos c10, if_pos (show nI (t.1 - 9) = (1 : Int32) from lq (n := 1) (by omega)), l2 (by omega)]
      obtain ⟨G', r1, r2, r3⟩ := m_removed H h (r := t.2.1) (by have := h10 c10; omega)
      rw [r1, ci_some, if_pos (b2_01 _)]
      exact ⟨G', rfl, r2, r3.e⟩
    · rw [if_neg c10, if_neg (show ¬ nI (t.1 - 9) = (1 : Int32) from ne 1 (by omega) (by omega))]
      by_cases c11 : t.1 = 11
      · obtain ⟨a, c, d⟩ := h11 c11
        rw [if_pos c11, if_pos (show nI (t.1 - 9) = (2 : Int32) from lq (n := 2) (by omega)), Option.bind_some, rd2', Option.bind_some, Option.bind_some, rd3', Option.bind_some, l2 (by omega), (l3 (by omega)).1, (l3 (by omega)).2]
        obtain ⟨G', r1, r2, r3⟩ := m_changed H h (r := t.2.1) (by omega) c d
        rw [r1, ci_some, if_pos (b2_01 _)]
        exact ⟨G', rfl, r2, r3⟩
      · rw [if_neg c11, if_neg (show ¬ nI (t.1 - 9) = (2 : Int32) from ne 2 (by omega) (by omega))]
        by_cases c12 : t.1 = 12
        · rw [if_pos c12, if_pos (show nI (t.1 - 9) = (3 : Int32) from lq (n := 3) (by omega))]
          obtain ⟨G', r1, r2, r3⟩ := m_begunOfAll H h
          have hbo : begO A (wouldA P A) = -1 ∨ ∃ n, n < 2147483648 ∧ begO A (wouldA P A) = nI n := by
            unfold begO
            have := bc_le (wouldA P A)
            cases canLau A (wouldA P A)
            · exact Or.inl rfl
            · exact Or.inr ⟨bc (wouldA P A), by omega, rfl⟩
          have hb2 : (!decide (begO A (wouldA P A) = -1)) = (lauO P A (wouldA P A)).1 := by
            unfold begO lauO
            have := bc_le (wouldA P A)
            cases canLau A (wouldA P A)
            · rfl
            · rw [if_pos rfl, if_pos rfl, decide_eq_false (n_m1 (by omega))]; rfl
          rw [r1, ci_some, neg_b hbo, hb2]
          exact ⟨G', rfl, r2, r3.e⟩
        · rw [if_neg c12, if_neg (show ¬ nI (t.1 - 9) = (3 : Int32) from ne 3 (by omega) (by omega))]
          by_cases c13 : t.1 = 13
          · obtain ⟨a, c⟩ := h13 c13
            rw [if_pos c13, if_pos (show nI (t.1 - 9) = (4 : Int32) from lq (n := 4) (by omega)), l2 (by omega)]
            obtain ⟨G', r1, r2, r3⟩ := m_goes (n := t.2.1) (by omega) H h
            rw [r1, ci_some, if_pos (b2_01 _)]
            exact ⟨G', rfl, r2, r3.e⟩
          · rw [if_neg c13, if_neg (show ¬ nI (t.1 - 9) = (4 : Int32) from ne 4 (by omega) (by omega))]
            by_cases c14 : t.1 = 14
            · rw [if_pos c14, if_pos (show nI (t.1 - 9) = (5 : Int32) from lq (n := 5) (by omega))]
              obtain ⟨G', r1, r2, r3⟩ := m_stopped H h
              rw [r1, ci_some, if_pos (b2_01 _)]
              exact ⟨G', rfl, r2, r3.e⟩
            · rw [if_neg c14, if_neg (show ¬ nI (t.1 - 9) = (5 : Int32) from ne 5 (by omega) (by omega))]
              by_cases c15 : t.1 = 15
              · rw [if_pos c15, if_pos (show nI (t.1 - 9) = (6 : Int32) from lq (n := 6) (by omega))]
                obtain ⟨G', r1, r2, r3⟩ := m_crashed H h
                rw [r1, ci_some, neg_b (fallO_ans h)]
                exact ⟨G', rfl, r2, r3.e⟩
              · rw [if_neg c15, if_neg (show ¬ nI (t.1 - 9) = (6 : Int32) from ne 6 (by omega) (by omega))]
                by_cases c16 : t.1 = 16
                · rw [if_pos c16, if_pos (show nI (t.1 - 9) = (7 : Int32) from lq (n := 7) (by omega))]
                  obtain ⟨G', r1, r2, r3⟩ := m_resumed H h
                  have hlh := left_he (P := P) (riseO P A).2
                  have hro : resO P A = -1 ∨ ∃ n, n < 2147483648 ∧ resO P A = nI n := by
                    unfold resO
                    cases (riseO P A).1
                    · exact Or.inl rfl
                    · exact Or.inr ⟨leftHere P (riseO P A).2, by omega, rfl⟩
                  have hb2 : (!decide (resO P A = -1)) = (riseO P A).1 := by
                    unfold resO
                    cases (riseO P A).1
                    · rfl
                    · rw [if_pos rfl, decide_eq_false (n_m1 (by omega))]; rfl
                  rw [r1, ci_some, neg_b hro, hb2]
                  exact ⟨G', rfl, r2, r3.e⟩
                · have hi17 := h17 (by omega)
                  rw [if_neg c16, if_neg (show ¬ nI (t.1 - 9) = (7 : Int32) from ne 7 (by omega) (by omega)), l2 (by omega)]
                  obtain ⟨G', r1, r2, r3⟩ := m_packs H h.os hi17
                  have hjo : (joinO P A t.2.1).1 = -1 ∨ ∃ n, n < 2147483648 ∧ (joinO P A t.2.1).1 = nI n := by
                    unfold joinO
                    have := (h.kl hi17).len
                    cases isAtA A t.2.1
                    · exact Or.inr ⟨_, by omega, rfl⟩
                    · exact Or.inl rfl
                  rw [r1, ci_some, neg_b hjo]
                  exact ⟨G', rfl, r2, r3.e⟩
end MDI
