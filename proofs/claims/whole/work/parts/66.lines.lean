/-! LINES (the class): the WORK told, played -/
abbrev LI := Nat × Nat × Nat × Nat
def okLi (P : PP) (t : LI) : Prop := (9 ≤ t.1 ∧ t.1 ≤ 17) ∧ (t.1 = 9 → t.2.1 ≤ 999 ∧ t.2.2.1 ≤ 999 ∧ t.2.2.2 ≤ 999) ∧ (t.1 = 10 → t.2.1 < 30) ∧ (t.1 = 11 → t.2.1 < 30 ∧ t.2.2.1 < 3 ∧ t.2.2.2 ≤ 999) ∧ (t.1 = 13 → 1 ≤ t.2.1 ∧ t.2.1 ≤ 99) ∧ (t.1 = 17 → t.2.1 < pNi P)
def playO (P : PP) (A : AS) (t : LI) : Bool × AS :=
  if t.1 = 9 then (!decide ((admO P A t.2.1 t.2.2.1 t.2.2.2).1 = -1), (admO P A t.2.1 t.2.2.1 t.2.2.2).2)
  else if t.1 = 10 then expO P A t.2.1
  else if t.1 = 11 then amdO P A t.2.1 t.2.2.1 t.2.2.2
  else if t.1 = 12 then lauO P A (wouldA P A)
  else if t.1 = 13 then (decide ((goS P t.2.1 A).1 = t.2.1), (goS P t.2.1 A).2)
  else if t.1 = 14 then haltO P A
  else if t.1 = 15 then (!decide ((fallO P A).1 = -1), (fallO P A).2)
  else if t.1 = 16 then riseO P A
  else (!decide ((joinO P A t.2.1).1 = -1), (joinO P A t.2.1).2)
def isLi (G : GG) (l i : Nat) (t : LI) : Prop := G.1 (l + 1) i = nI t.1 ∧ (t.1 = 9 ∨ t.1 = 10 ∨ t.1 = 11 ∨ t.1 = 13 ∨ t.1 = 17 → G.1 (l + 2) (i * 3) = nI t.2.1) ∧ (t.1 = 9 ∨ t.1 = 11 → G.1 (l + 2) (i * 3 + 1) = nI t.2.2.1 ∧ G.1 (l + 2) (i * 3 + 2) = nI t.2.2.2)
def isLn (G : GG) (l : Nat) (W : List LI) : Prop := G.1 l 2 = nI W.length ∧ ∀ i (h : i < W.length), isLi G l i W[i]
def okWk (P : PP) (W : List LI) : Prop := W.length ≤ 40 ∧ ∀ t ∈ W, okLi P t
section LNS
variable {G : GG} {s p l : Nat} {P : PP} {A : AS} {t : LI}
theorem playO_inv (h : INV P A) (ht : okLi P t) : INV P (playO P A t).2 := by
  obtain ⟨⟨w1, w2⟩, h9, h10, h11, h13, h17⟩ := ht
  unfold playO
  by_cases c9 : t.1 = 9
  · rw [if_pos c9]; obtain ⟨a, b, c⟩ := h9 c9; exact admO_inv h a b c
  · rw [if_neg c9]
    by_cases c10 : t.1 = 10
    · rw [if_pos c10]; exact expO_inv h _
    · rw [if_neg c10]
      by_cases c11 : t.1 = 11
      · rw [if_pos c11]; obtain ⟨a, b, c⟩ := h11 c11; exact amdO_inv h _ b c
      · rw [if_neg c11]
        by_cases c12 : t.1 = 12
        · rw [if_pos c12]; exact lauO_inv h (fun r hr => would_vis h hr)
        · rw [if_neg c12]
          by_cases c13 : t.1 = 13
          · rw [if_pos c13]; exact goS_inv _ h
          · rw [if_neg c13]
            by_cases c14 : t.1 = 14
            · rw [if_pos c14]; exact haltO_inv h
            · rw [if_neg c14]
              by_cases c15 : t.1 = 15
              · rw [if_pos c15]; exact fallO_inv h
              · rw [if_neg c15]
                by_cases c16 : t.1 = 16
                · rw [if_pos c16]; exact riseO_inv h
                · rw [if_neg c16]; exact joinO_inv h (h17 (by omega))
theorem m1_b (x : Int32) (h : mm_H) : (if x = (-1) then (some (some (.int 0), h) : Option (Option Value × mm_H)) else some (some (.int 1), h)) = some (some (.int (b2 (!decide (x = -1)))), h) := by
  by_cases e : x = -1
  · rw [if_pos e, decide_eq_true e]; rfl
  · rw [if_neg e, decide_eq_false e]; rfl
theorem s_Ln_play (hl : okLn l) (H : SS G s p P A) (h : INV P A) {i : Nat} (hi : i < 40) (hL : isLi G l i t) (ht : okLi P t) : ∃ G', f_Ln_play [.ref l, .int (nI i), .ref s] (hp G) = some (some (.int (b2 (playO P A t).1)), hp G') ∧ SS G' s p P (playO P A t).2 ∧ eqOff (inR s (s + 28)) G G' := by
  obtain ⟨⟨w1, w2⟩, h9, h10, h11, h13, h17⟩ := ht
  obtain ⟨l1, l2, l3⟩ := hL
  have hn := H.ni
  rw [e_Ln_play l _ _ _ (ob_Ln G hl), gg_Ln_number _ hl, Option.bind_some, show nI i * 3 = nI (i * 3) from n_mul _ 3, rr_Ln_number _ hl (by omega), Option.bind_some, Option.bind_some, show nI (i * 3) + 1 = nI (i * 3 + 1) from nI_add _ 1, rr_Ln_number _ hl (by omega), Option.bind_some, Option.bind_some, show nI (i * 3) + 2 = nI (i * 3 + 2) from nI_add _ 2, rr_Ln_number _ hl (by omega), Option.bind_some, gg_Ln_word _ hl, Option.bind_some, rr_Ln_word _ hl hi, Option.bind_some, l1]
  unfold playO
  have ne : ∀ k, k < 100 → t.1 ≠ k → ¬ nI t.1 = nI k := fun k hk e => ln e (by omega) (by omega)
  by_cases c9 : t.1 = 9
  · rw [if_pos c9, if_pos (show nI t.1 = (9 : Int32) from lq (n := 9) c9), l2 (Or.inl c9), (l3 (Or.inl c9)).1, (l3 (Or.inl c9)).2]
    obtain ⟨a, b, c⟩ := h9 c9
    obtain ⟨G', r1, r2, r3⟩ := c_admit H h a b c
    rw [r1, ci_some, m1_b]
    exact ⟨G', rfl, r2, r3⟩
  · rw [if_neg c9, if_neg (show ¬ nI t.1 = (9 : Int32) from ne 9 (by omega) c9)]
    by_cases c10 : t.1 = 10
    · rw [if_pos c10, if_pos (show nI t.1 = (10 : Int32) from lq (n := 10) c10), l2 (by omega)]
      obtain ⟨G', r1, r2, r3⟩ := c_expel (P := P) (A := A) H (r := t.2.1) (by have := h10 c10; omega)
      rw [r1, ci_some, if_pos (b2_01 _)]
      exact ⟨G', rfl, r2, r3⟩
    · rw [if_neg c10, if_neg (show ¬ nI t.1 = (10 : Int32) from ne 10 (by omega) c10)]
      by_cases c11 : t.1 = 11
      · rw [if_pos c11, if_pos (show nI t.1 = (11 : Int32) from lq (n := 11) c11), l2 (by omega), (l3 (by omega)).1, (l3 (by omega)).2]
        obtain ⟨a, b, c⟩ := h11 c11
        obtain ⟨G', r1, r2, r3⟩ := c_amend H h (r := t.2.1) (by omega) b c
        rw [r1, ci_some, if_pos (b2_01 _)]
        exact ⟨G', rfl, r2, r3⟩
      · rw [if_neg c11, if_neg (show ¬ nI t.1 = (11 : Int32) from ne 11 (by omega) c11)]
        by_cases c12 : t.1 = 12
        · rw [if_pos c12, if_pos (show nI t.1 = (12 : Int32) from lq (n := 12) c12)]
          obtain ⟨G', r1, r2, r3⟩ := c_launch H h (s_St_would H 0 0) (fun r hr => would_vis h hr)
          rw [r1, ci_some, if_pos (b2_01 _)]
          exact ⟨G', rfl, r2, r3⟩
        · rw [if_neg c12, if_neg (show ¬ nI t.1 = (12 : Int32) from ne 12 (by omega) c12)]
          by_cases c13 : t.1 = 13
          · rw [if_pos c13, if_pos (show nI t.1 = (13 : Int32) from lq (n := 13) c13), l2 (by omega)]
            obtain ⟨a, b⟩ := h13 c13
            obtain ⟨G', r1, r2, r3⟩ := c_go H h (n := t.2.1) (by omega)
            rw [r1, ci_some]
            have hle := goS_le (P := P) t.2.1 A
            by_cases e : (goS P t.2.1 A).1 = t.2.1
            · rw [if_pos (lq e), decide_eq_true e]
              exact ⟨G', rfl, r2, r3⟩
            · rw [if_neg (ln e (by omega) (by omega)), decide_eq_false e]
              exact ⟨G', rfl, r2, r3⟩
          · rw [if_neg c13, if_neg (show ¬ nI t.1 = (13 : Int32) from ne 13 (by omega) c13)]
            by_cases c14 : t.1 = 14
            · rw [if_pos c14, if_pos (show nI t.1 = (14 : Int32) from lq (n := 14) c14)]
              obtain ⟨G', r1, r2, r3⟩ := c_halt H h
              rw [r1, ci_some, if_pos (b2_01 _)]
              exact ⟨G', rfl, r2, r3⟩
            · rw [if_neg c14, if_neg (show ¬ nI t.1 = (14 : Int32) from ne 14 (by omega) c14)]
              by_cases c15 : t.1 = 15
              · rw [if_pos c15, if_pos (show nI t.1 = (15 : Int32) from lq (n := 15) c15)]
                obtain ⟨G', r1, r2, r3⟩ := c_fall H h
                rw [r1, ci_some, m1_b]
                exact ⟨G', rfl, r2, r3⟩
              · rw [if_neg c15, if_neg (show ¬ nI t.1 = (15 : Int32) from ne 15 (by omega) c15)]
                by_cases c16 : t.1 = 16
                · rw [if_pos c16, if_pos (show nI t.1 = (16 : Int32) from lq (n := 16) c16)]
                  obtain ⟨G', r1, r2, r3⟩ := c_rise H h
                  rw [r1, ci_some, if_pos (b2_01 _)]
                  exact ⟨G', rfl, r2, r3⟩
                · rw [if_neg c16, if_neg (show ¬ nI t.1 = (16 : Int32) from ne 16 (by omega) c16), l2 (by omega)]
                  obtain ⟨G', r1, r2, r3⟩ := c_join (P := P) (A := A) H (i := t.2.1) (h17 (by omega))
                  rw [r1, ci_some, m1_b]
                  exact ⟨G', rfl, r2, r3⟩
end LNS
