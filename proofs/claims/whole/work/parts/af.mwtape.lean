/-! THE REFERENCE: its tape, its tokens -/
def isMTp (G : GG) (S : List Nat) : Prop := (G.1 618 2 = nI S.length ∧ S.length ≤ 1000 ∧ ∀ c ∈ S, okc c) ∧ ∀ i (h : i < S.length), G.1 619 i = nI S[i]
def isTv (v : Int64) (t : TK) : Prop := (tso t = 1 → v = lL (pkL 37 (tsg t))) ∧ (tso t = 2 → v = lL (num (tsg t))) ∧ (tso t = 3 → v = lL 59)
/-- its tokens, n of them, and the end -/
def isMK (G : GG) (S : List Nat) (n : Nat) : Prop := (n ≤ 1000 ∧ tso (tk S n) = 0 ∧ ∀ m, m < n → tso (tk S m) ≠ 0) ∧ ∀ m, m ≤ n → G.1 620 m = nI (tso (tk S m)) ∧ G.1 621 m = nI (tpl (tk S m)) ∧ isTv (G.2.1 622 m) (tk S m)
def cutE (G G' : GG) : Prop := eqOff (fun n => 618 ≤ n ∧ n ≤ 622) G G' ∧ ∀ k, k ≠ 2 → k ≠ 3 → k ≠ 7 → k ≠ 8 → G'.1 618 k = G.1 618 k
theorem cutE.rf {G : GG} : cutE G G := ⟨eqOff.rf, fun _ _ _ _ _ => rfl⟩
theorem cutE.tr {G1 G2 G3 : GG} (h1 : cutE G1 G2) (h2 : cutE G2 G3) : cutE G1 G3 := ⟨h1.1.tr h2.1, fun k a b c d => (h2.2 k a b c d).trans (h1.2 k a b c d)⟩
theorem cutE.arr {G : GG} {n k : Nat} {x : Int32} (h : 619 ≤ n ∧ n ≤ 622) : cutE G (gsi G n k x) := ⟨eqOff.gsi _ _ (by omega), fun j _ _ _ _ => by rw [gsi_i, if_neg (by omega)]⟩
theorem cutE.lng {G : GG} {n k : Nat} {x : Int64} (h : 619 ≤ n ∧ n ≤ 622) : cutE G (gsl G n k x) := ⟨eqOff.gsl _ _ (by omega), fun j _ _ _ _ => rfl⟩
theorem cutE.fld {G : GG} {k : Nat} {x : Int32} (h : k = 2 ∨ k = 3 ∨ k = 7 ∨ k = 8) : cutE G (gsi G 618 k x) := ⟨eqOff.gsi _ _ (by omega), fun j a b c d => by rw [gsi_i, if_pos rfl, upd_ne _ _ (by omega)]⟩
theorem f6 (G : GG) (k : Nat) (v : Int32) : (gsi G 618 k v).1 618 k = v := by rw [gsi_i, if_pos rfl, upd_at]
theorem f6n (G : GG) {k j : Nat} (v : Int32) (h : j ≠ k) : (gsi G 618 k v).1 618 j = G.1 618 j := by rw [gsi_i, if_pos rfl, upd_ne _ _ h]
theorem f6o (G : GG) {n k j : Nat} (v : Int32) (h : j ≠ n) : (gsi G n k v).1 j = G.1 j := by rw [gsi_i, if_neg h]
theorem s_letter {c : Nat} (hc : c < 128) (h : mm_H) : f_Md_isLetter [.int (nI c)] h = some (some (.int (b2 (decide (clS c = 1)))), h) := by
  rw [e_Md_isLetter]
  have e : ∀ c, c < 128 → decide (clS c = 1) = (!decide (nI c < (97 : Int32)) && !decide ((122 : Int32) < nI c)) := by decide +kernel
  rw [e c hc]
  by_cases h1 : nI c < (97 : Int32)
  · rw [if_pos h1, decide_eq_true h1]; rfl
  · rw [if_neg h1, decide_eq_false h1]
    by_cases h2 : (122 : Int32) < nI c
    · rw [if_pos h2, decide_eq_true h2]; rfl
    · rw [if_neg h2, decide_eq_false h2]; rfl
theorem s_digit {c : Nat} (hc : c < 128) (h : mm_H) : f_Md_isDigit [.int (nI c)] h = some (some (.int (b2 (decide (clS c = 2)))), h) := by
  rw [e_Md_isDigit]
  have e : ∀ c, c < 128 → decide (clS c = 2) = (!decide (nI c < (48 : Int32)) && !decide ((57 : Int32) < nI c)) := by decide +kernel
  rw [e c hc]
  by_cases h1 : nI c < (48 : Int32)
  · rw [if_pos h1, decide_eq_true h1]; rfl
  · rw [if_neg h1, decide_eq_false h1]
    by_cases h2 : (57 : Int32) < nI c
    · rw [if_pos h2, decide_eq_true h2]; rfl
    · rw [if_neg h2, decide_eq_false h2]; rfl
theorem cl_1 {c : Nat} (h : clS c = 1) : 97 ≤ c ∧ c ≤ 122 := by
  unfold clS at h
  split at h
  · omega
  · split at h
    · assumption
    · split at h
      · omega
      · split at h <;> omega
theorem cl_2 {c : Nat} (h : clS c = 2) : 48 ≤ c ∧ c ≤ 57 := by
  unfold clS at h
  split at h
  · omega
  · split at h
    · omega
    · split at h
      · assumption
      · split at h <;> omega
theorem cl_5 (c : Nat) : clS c = 5 ↔ c = 10 ∨ c = 32 := by
  unfold clS
  split
  · exact ⟨fun _ => by assumption, fun _ => rfl⟩
  · rename_i q
    refine ⟨fun h => ?_, fun h => absurd h q⟩
    split at h
    · omega
    · split at h
      · omega
      · split at h <;> omega
theorem cl_3 {c : Nat} (h5 : clS c ≠ 5) (h1 : clS c ≠ 1) (h2 : clS c ≠ 2) : clS c = if c = 59 then 3 else 4 := by
  unfold clS at h5 h1 h2 ⊢
  split
  · rename_i q; rw [if_pos q] at h5; exact absurd rfl h5
  · rename_i q
    rw [if_neg q] at h1 h2
    split
    · rename_i q1; rw [if_pos q1] at h1; exact absurd rfl h1
    · rename_i q1
      rw [if_neg q1] at h2
      split
      · rename_i q2; rw [if_pos q2] at h2; exact absurd rfl h2
      · rfl
section MTP
variable {G G' : GG} {S : List Nat}
theorem m_lay_step (hT : isMTp G S) (v : Int64) {k : Int32} (hk : ¬ k < 0) (f : Nat) : ∃ G', mm_run p_Md_lay (f + 1) 3 [.ref 618, .long v, .int k] [] (hp G) = mm_run p_Md_lay f 3 [.ref 618, .long v, .int (k + (-8))] [] (hp G') ∧ isMTp G' (layS S (byN v k)) ∧ cutE G G' := by
  obtain ⟨e1, e2⟩ := byV_ok v k
  have hl := hT.1.2.1
  have eV : (v >>> (k.toInt64 &&& 63)).toInt32 &&& 255 = byV v k := by unfold byV; rw [Int64.toInt32_and]; rfl
  rw [e_Md_lay_3, if_neg hk, eV]
  have put : okc (byN v k) → ∃ G', ((mm_gi 12 2 (hp G) 618).bind fun x1 => if x1 < 1000 then (mm_gr 12 1 (hp G) 618).bind fun r2 => (mm_gi 12 2 (hp G) 618).bind fun x3 => (mm_si (hp G) r2 x3 (byV v k)).bind fun h4 => (mm_gi 12 2 h4 618).bind fun x5 => (mm_pf 12 2 (.int (x5 + 1)) h4 618).bind fun h6 => mm_run p_Md_lay f 3 [.ref 618, .long v, .int (k + (-8))] [] h6 else mm_run p_Md_lay f 3 [.ref 618, .long v, .int (k + (-8))] [] (hp G)) = mm_run p_Md_lay f 3 [.ref 618, .long v, .int (k + (-8))] [] (hp G') ∧ isMTp G' (layS S (byN v k)) ∧ cutE G G' := by
    intro hc
    rw [gg_Md_taped, Option.bind_some, hT.1.1, e1]
    unfold layS
    by_cases hlt : S.length < 1000
    · have h3 : (gsi G 619 S.length (nI (byN v k))).1 618 2 = nI S.length := by rw [f6o _ _ (by decide)]; exact hT.1.1
      rw [if_pos (show nI S.length < (1000 : Int32) from lp (n := 1000) hlt (by decide)), gg_Md_tape, Option.bind_some, Option.bind_some, uu_Md_tape _ (by omega), Option.bind_some, gg_Md_taped, Option.bind_some, h3, show nI S.length + 1 = nI (S.length + 1) from nI_add _ 1, ww_Md_taped, Option.bind_some, if_pos ⟨hc, hlt⟩]
      refine ⟨_, rfl, ⟨⟨by rw [f6, List.length_append]; rfl, by rw [List.length_append]; show S.length + 1 ≤ 1000; omega, fun x hx => ?_⟩, fun i hi => ?_⟩, (cutE.arr (by omega)).tr (cutE.fld (by omega))⟩
      · rcases List.mem_append.mp hx with q | q
        · exact hT.1.2.2 x q
        · rw [show x = byN v k by simpa using q]; exact hc
      · rw [List.length_append] at hi
        simp only [List.length_cons, List.length_nil] at hi
        rw [f6o _ _ (by decide), gsi_i, if_pos rfl]
        by_cases e : i = S.length
        · subst e
          rw [upd_at]
          simp
        · rw [upd_ne _ _ e, List.getElem_append_left (by omega)]
          exact hT.2 i (by omega)
    · rw [if_neg (show ¬ nI S.length < (1000 : Int32) from lm (n := 1000) (by omega) (by omega)), if_neg (fun q => hlt q.2)]
      exact ⟨G, rfl, hT, cutE.rf⟩
  have no : ¬ okc (byN v k) → layS S (byN v k) = S := fun h => if_neg (fun q => h q.1)
  by_cases c10 : byN v k = 10
  · rw [if_pos (show byV v k = 10 by rw [e1, c10]; rfl)]
    exact put (Or.inl c10)
  · rw [if_neg (show ¬ byV v k = 10 by rw [e1]; exact ln (n := 10) c10 (by omega) (by decide))]
    by_cases c32 : byN v k < 32
    · rw [if_pos (show byV v k < 32 by rw [e1]; exact lp (n := 32) c32 (by decide)), no (fun q => by unfold okc at q; omega)]
      exact ⟨G, rfl, hT, cutE.rf⟩
    · rw [if_neg (show ¬ byV v k < 32 by rw [e1]; exact lm (n := 32) (by omega) (by omega))]
      by_cases c126 : 126 < byN v k
      · rw [if_pos (show (126 : Int32) < byV v k by rw [e1]; exact lp (a := 126) c126 (by omega)), no (fun q => by unfold okc at q; omega)]
        exact ⟨G, rfl, hT, cutE.rf⟩
      · rw [if_neg (show ¬ (126 : Int32) < byV v k by rw [e1]; exact lm (a := 126) (by omega) (by decide))]
        exact put (Or.inr ⟨by omega, by omega⟩)
theorem m_lay (hT : isMTp G S) (v : Int64) : ∃ G', f_Md_lay [.ref 618, .long v] (hp G) = some (none, hp G') ∧ isMTp G' (layV S v) ∧ cutE G G' := by
  obtain ⟨f, hf⟩ : ∃ f, mm_fu = f + 9 := ⟨mm_fu - 9, by have := @fu_lt 100 (by omega); omega⟩
  rw [e_Md_lay 618 _ _ (ob_Md G), hf]
  obtain ⟨G1, a1, b1, c1⟩ := m_lay_step hT v (k := 56) (by decide) (f + 8)
  obtain ⟨G2, a2, b2, c2⟩ := m_lay_step b1 v (k := 48) (by decide) (f + 7)
  obtain ⟨G3, a3, b3, c3⟩ := m_lay_step b2 v (k := 40) (by decide) (f + 6)
  obtain ⟨G4, a4, b4, c4⟩ := m_lay_step b3 v (k := 32) (by decide) (f + 5)
  obtain ⟨G5, a5, b5, c5⟩ := m_lay_step b4 v (k := 24) (by decide) (f + 4)
  obtain ⟨G6, a6, b6, c6⟩ := m_lay_step b5 v (k := 16) (by decide) (f + 3)
  obtain ⟨G7, a7, b7, c7⟩ := m_lay_step b6 v (k := 8) (by decide) (f + 2)
  obtain ⟨G8, a8, b8, c8⟩ := m_lay_step b7 v (k := 0) (by decide) (f + 1)
  refine ⟨G8, ?_, b8, ((((((c1.tr c2).tr c3).tr c4).tr c5).tr c6).tr c7).tr c8⟩
  rw [a1, show (56 : Int32) + (-8) = 48 from rfl, a2, show (48 : Int32) + (-8) = 40 from rfl, a3, show (40 : Int32) + (-8) = 32 from rfl, a4, show (32 : Int32) + (-8) = 24 from rfl, a5, show (24 : Int32) + (-8) = 16 from rfl, a6, show (16 : Int32) + (-8) = 8 from rfl, a7, show (8 : Int32) + (-8) = 0 from rfl, a8, e_Md_lay_3, if_pos (by decide)]
/-- all is cut -/
theorem m_cutAll (hT : isMTp G S) : ∃ G' n, f_Md_cutAll [.ref 618] (hp G) = some (none, hp G') ∧ isMK G' S n ∧ G'.1 618 2 = 0 ∧ G'.1 618 7 = 0 ∧ G'.1 618 8 = 0 ∧ cutE G G' := by
  have hl := hT.1.2.1
  have hfu : 9999 ≤ mm_fu := Nat.le_of_lt (fu_lt (Nat.le_refl _))
  rw [e_Md_cutAll 618 _ (ob_Md G), gg_Md_taped, Option.bind_some, hT.1.1, ww_Md_size, Option.bind_some, ww_Md_taped, Option.bind_some]
  have hc8 : ∀ i, i < S.length → S.getD i 0 < 128 := fun i hi => by rw [getD_get hi]; exact okc_lt (hT.1.2.2 _ (List.getElem_mem hi))
  -- what has been cut
  have key : ∀ (m n k f : Nat) (G1 : GG), S.length - k = m → k ≤ S.length → n ≤ k → enS S 5 k = enS S 5 (bS S n) → 3 * m + 10 < f → cutE G G1 → G1.1 618 2 = 0 → G1.1 618 3 = nI S.length → (∀ i (h : i < S.length), G1.1 619 i = nI S[i]) → (∀ q, q < n → tso (tk S q) ≠ 0 ∧ G1.1 620 q = nI (tso (tk S q)) ∧ G1.1 621 q = nI (tpl (tk S q)) ∧ isTv (G1.2.1 622 q) (tk S q)) → ∃ G' n', mm_run p_Md_cutAll f 17 [.ref 618, .int (nI n), .int (nI k)] [] (hp G1) = some (none, hp G') ∧ isMK G' S n' ∧ G'.1 618 2 = 0 ∧ G'.1 618 7 = 0 ∧ G'.1 618 8 = 0 ∧ cutE G G' := by
    intro m
    induction m using Nat.strongRecOn with
    | ind m IH =>
      intro n k f G1 hm hk hnk hen hf hcE h2 h3 hch hdone
      obtain ⟨f, rfl⟩ : ∃ g, f = g + 1 := ⟨f - 1, by omega⟩
      by_cases hlt : k < S.length
      · have hck := hc8 k hlt
        have hcell : G1.1 619 k = nI (S.getD k 0) := by rw [getD_get hlt]; exact hch k hlt
        rw [e_Md_cutAll_17, gg_Md_size, Option.bind_some, h3, if_pos (lp hlt (by omega)), gg_Md_tape, Option.bind_some, rr_Md_tape _ (by omega), Option.bind_some, hcell, show nI k + 1 = nI (k + 1) from nI_add k 1]
        -- a blank
        have blank : clS (S.getD k 0) = 5 → ∃ G' n', mm_run p_Md_cutAll f 17 [.ref 618, .int (nI n), .int (nI (k + 1))] [] (hp G1) = some (none, hp G') ∧ isMK G' S n' ∧ G'.1 618 2 = 0 ∧ G'.1 618 7 = 0 ∧ G'.1 618 8 = 0 ∧ cutE G G' := fun hb => IH (S.length - (k + 1)) (by omega) n (k + 1) f G1 rfl (by omega) (by omega) (by rw [← enS_y hlt hb]; exact hen) (by omega) hcE h2 h3 hch hdone
        by_cases c10 : S.getD k 0 = 10
        · rw [if_pos (show nI (S.getD k 0) = (10 : Int32) from lq (n := 10) c10)]
          exact blank ((cl_5 _).mpr (Or.inl c10))
        rw [if_neg (show ¬ nI (S.getD k 0) = (10 : Int32) from ln (n := 10) c10 (by omega) (by decide))]
        by_cases c32 : S.getD k 0 = 32
        · rw [if_pos (show nI (S.getD k 0) = (32 : Int32) from lq (n := 32) c32)]
          exact blank ((cl_5 _).mpr (Or.inr c32))
        rw [if_neg (show ¬ nI (S.getD k 0) = (32 : Int32) from ln (n := 32) c32 (by omega) (by decide))]
        have hn5 : clS (S.getD k 0) ≠ 5 := fun q => ((cl_5 _).mp q).elim c10 c32
        have hek : enS S 5 k = k := enS_n (fun _ => hn5)
        have hqb : enS S 5 (bS S n) = k := by rw [← hen, hek]
        have htkS : tkS S (bS S n) = ((sortT S k, k, (S.drop k).take (endT S k - k)), endT S k) := by unfold tkS; rw [hqb, if_pos hlt]
        have htk : tk S n = (sortT S k, k, (S.drop k).take (endT S k - k)) := by unfold tk; rw [htkS]
        have hbn : bS S (n + 1) = endT S k := by show (tkS S (bS S n)).2 = _; rw [htkS]
        obtain ⟨eT1, eT2⟩ := endT_ok hlt
        -- a token is put down, and on
        have on : ∀ (f' : Nat) (G2 : GG) (x : Int32) (w : Int64), cutE G G2 → G2.1 618 2 = 0 → G2.1 618 3 = nI S.length → (∀ i (h : i < S.length), G2.1 619 i = nI S[i]) → (∀ q, q < n → G2.1 620 q = G1.1 620 q ∧ G2.1 621 q = G1.1 621 q ∧ G2.2.1 622 q = G1.2.1 622 q) → G2.1 621 n = nI k → 3 * (S.length - endT S k) + 10 < f' → nI (sortT S k) = x → isTv w (tk S n) → ∃ G' n', ((mm_si (hp G2) 620 (nI n) x).bind fun h7 => (mm_gr 12 6 h7 618).bind fun r8 => (mm_sl h7 r8 (nI n) w).bind fun h9 => mm_run p_Md_cutAll f' 17 [.ref 618, .int (nI n + 1), .int (nI (endT S k))] [] h9) = some (none, hp G') ∧ isMK G' S n' ∧ G'.1 618 2 = 0 ∧ G'.1 618 7 = 0 ∧ G'.1 618 8 = 0 ∧ cutE G G' := by
          intro f' G2 x w hc2 g2 g3 gch gq gpl hf' hx hw
          rw [uu_Md_sort _ (by omega), Option.bind_some, gg_Md_value, Option.bind_some, uu_Md_value _ (by omega), Option.bind_some, show nI n + 1 = nI (n + 1) from nI_add n 1]
          have hlv : ∀ q, (gsl (gsi G2 620 n x) 622 n w).2.1 622 q = if q = n then w else G2.2.1 622 q := fun q => by
            rw [gsl_l, if_pos rfl]
            rfl
          refine IH (S.length - endT S k) (by omega) (n + 1) (endT S k) f' _ rfl eT2 (by omega) (by rw [hbn]) hf' ((hc2.tr (cutE.arr (by omega))).tr (cutE.lng (by omega))) (by rw [gsl_i, f6o _ _ (by decide)]; exact g2) (by rw [gsl_i, f6o _ _ (by decide)]; exact g3) (fun i hi => by rw [gsl_i, f6o _ _ (by decide)]; exact gch i hi) (fun q hq => ?_)
          rw [gsl_i, hlv, f6o _ _ (show 621 ≠ 620 by decide), gsi_i, if_pos rfl]
          by_cases e : q = n
          · subst e
            rw [upd_at, if_pos rfl, gpl, ← hx, htk]
            refine ⟨?_, rfl, rfl, by rw [← htk]; exact hw⟩
            show sortT S k ≠ 0
            unfold sortT
            have := clS_le (S.getD k 0)
            split
            · split <;> decide
            · split
              · split <;> decide
              · intro z
                unfold clS at z
                split at z
                · omega
                · split at z
                  · omega
                  · split at z
                    · omega
                    · split at z <;> omega
          · rw [upd_ne _ _ e, if_neg e]
            obtain ⟨d1, d2, d3, d4⟩ := hdone q (by omega)
            obtain ⟨z1, z2, z3⟩ := gq q (by omega)
            exact ⟨d1, by rw [z1]; exact d2, by rw [z2]; exact d3, by rw [z3]; exact d4⟩
        rw [gg_Md_place, Option.bind_some, uu_Md_place _ (by omega), Option.bind_some]
        have hcE2 : cutE G (gsi G1 621 n (nI k)) := hcE.tr (cutE.arr (by omega))
        have p2 : (gsi G1 621 n (nI k)).1 618 2 = 0 := by rw [f6o _ _ (by decide)]; exact h2
        have p3 : (gsi G1 621 n (nI k)).1 618 3 = nI S.length := by rw [f6o _ _ (by decide)]; exact h3
        have pch : ∀ i (h : i < S.length), (gsi G1 621 n (nI k)).1 619 i = nI S[i] := fun i hi => by rw [f6o _ _ (by decide)]; exact hch i hi
        have pq : ∀ q, q < n → (gsi G1 621 n (nI k)).1 620 q = G1.1 620 q ∧ (gsi G1 621 n (nI k)).1 621 q = G1.1 621 q ∧ (gsi G1 621 n (nI k)).2.1 622 q = G1.2.1 622 q := fun q hq => ⟨by rw [f6o _ _ (by decide)], by rw [gsi_i, if_pos rfl, upd_ne _ _ (by omega)], rfl⟩
        have pn : (gsi G1 621 n (nI k)).1 621 n = nI k := by rw [gsi_i, if_pos rfl, upd_at]
        generalize gsi G1 621 n (nI k) = G2 at hcE2 p2 p3 pch pq pn ⊢
        have hcell2 : ∀ i, i < S.length → G2.1 619 i = nI (S.getD i 0) := fun i hi => by rw [getD_get hi]; exact pch i hi
        have hsplit : ∀ i, k ≤ i → i < S.length → (S.drop k).take (i - k) ++ [S.getD i 0] = (S.drop k).take (i + 1 - k) := fun i h1 h2 => by
          rw [show i + 1 - k = (i - k) + 1 by omega, ← List.take_append_getElem (show i - k < (S.drop k).length by rw [List.length_drop]; omega), List.getElem_drop, getD_get (by omega)]
          congr 3
          omega
        rw [s_letter hck, ci_some]
        by_cases hc1 : clS (S.getD k 0) = 1
        · -- a WORD
          have hsort : sortT S k = if endT S k - k ≤ 8 then 1 else 4 := by unfold sortT; rw [if_pos hc1]
          have hend : endT S k = enS S 1 (k + 1) := by unfold endT; rw [if_pos (Or.inl hc1), hc1]
          have hend0 : enS S 1 k = endT S k := by rw [hend, enS_y hlt hc1]
          rw [decide_eq_true hc1, if_neg (by decide)]
          have l1 : ∀ (r i f : Nat) (w : Int64), S.length - i = r → k ≤ i → i ≤ S.length → enS S 1 i = enS S 1 k → (i - k ≤ 8 → w = lL (pkL 37 ((S.drop k).take (i - k)))) → endT S k - i + 3 * (S.length - endT S k) + 11 < f → ∃ G' n', mm_run p_Md_cutAll f 70 [.ref 618, .int (nI n), .int (nI i), .int (nI k), .long w] [] (hp G2) = some (none, hp G') ∧ isMK G' S n' ∧ G'.1 618 2 = 0 ∧ G'.1 618 7 = 0 ∧ G'.1 618 8 = 0 ∧ cutE G G' := by
            intro r
            induction r with
            | zero =>
              intro i f w hr hki hiS hei hw hf2
              obtain ⟨f, rfl⟩ : ∃ g, f = g + 1 := ⟨f - 1, by omega⟩
              have hie : endT S k = i := by rw [← hend0, ← hei]; exact enS_n (fun q => by omega)
              rw [e_Md_cutAll_70, gg_Md_size, Option.bind_some, p3, if_neg (lm (by omega) (by omega)), gg_Md_sort, Option.bind_some, n_sub hki]
              rw [← hie]
              by_cases h8 : endT S k - k ≤ 8
              · rw [if_neg (show ¬ (8 : Int32) < nI (endT S k - k) from lm (a := 8) (by omega) (by decide))]
                exact on f G2 1 w hcE2 p2 p3 pch pq pn (by omega) (by rw [hsort, if_pos h8]; rfl) (by rw [htk, hsort, if_pos h8]; exact ⟨fun _ => by rw [← hie] at hw; exact hw h8, fun q => absurd q (by show ¬ (1 : Nat) = 2; decide), fun q => absurd q (by show ¬ (1 : Nat) = 3; decide)⟩)
              · rw [if_pos (show (8 : Int32) < nI (endT S k - k) from lp (a := 8) (by omega) (by omega))]
                exact on f G2 4 w hcE2 p2 p3 pch pq pn (by omega) (by rw [hsort, if_neg h8]; rfl) (by rw [htk, hsort, if_neg h8]; exact ⟨fun q => absurd q (by show ¬ (4 : Nat) = 1; decide), fun q => absurd q (by show ¬ (4 : Nat) = 2; decide), fun q => absurd q (by show ¬ (4 : Nat) = 3; decide)⟩)
            | succ r ih =>
              intro i f w hr hki hiS hei hw hf2
              obtain ⟨f, rfl⟩ : ∃ g, f = g + 1 := ⟨f - 1, by omega⟩
              have hil : i < S.length := by omega
              rw [e_Md_cutAll_70, gg_Md_size, Option.bind_some, p3, if_pos (lp hil (by omega)), gg_Md_tape, Option.bind_some, rr_Md_tape _ (by omega), Option.bind_some, hcell2 i hil, s_letter (hc8 i hil), ci_some, n_sub hki, show nI i + 1 = nI (i + 1) from nI_add i 1]
              by_cases hci : clS (S.getD i 0) = 1
              · have hcl := cl_1 hci
                have hie1 : i + 1 ≤ endT S k := by rw [← hend0, ← hei, enS_y hil hci]; exact enS_ge S 1 (i + 1)
                rw [decide_eq_true hci, if_neg (by decide)]
                by_cases h8 : i - k < 8
                · rw [if_pos (show nI (i - k) < (8 : Int32) from lp (n := 8) h8 (by decide)), gg_Md_tape, Option.bind_some, rr_Md_tape _ (by omega), Option.bind_some, hcell2 i hil, e_Md_rank, s_letter (hc8 i hil), ci_some, decide_eq_true hci, if_neg (by decide), ci_some, show nI (S.getD i 0) - 96 = nI (S.getD i 0 - 96) from n_sub (b := 96) (by omega), lL_nI (by omega), hw (by omega), show (37 : Int64) = lL 37 from rfl, lL_mul, lL_add]
                  exact ih (i + 1) f _ (by omega) (by omega) (by omega) (by rw [← enS_y hil hci]; exact hei) (fun _ => by rw [← hsplit i hki hil, pkL_s]) (by omega)
                · rw [if_neg (show ¬ nI (i - k) < (8 : Int32) from lm (n := 8) (by omega) (by omega))]
                  exact ih (i + 1) f _ (by omega) (by omega) (by omega) (by rw [← enS_y hil hci]; exact hei) (fun q => by omega) (by omega)
              · have hie : endT S k = i := by rw [← hend0, ← hei]; exact enS_n (fun _ => hci)
                rw [decide_eq_false hci, if_pos (by decide), gg_Md_sort, Option.bind_some]
                rw [← hie]
                by_cases h8 : endT S k - k ≤ 8
                · rw [if_neg (show ¬ (8 : Int32) < nI (endT S k - k) from lm (a := 8) (by omega) (by decide))]
                  exact on f G2 1 w hcE2 p2 p3 pch pq pn (by omega) (by rw [hsort, if_pos h8]; rfl) (by rw [htk, hsort, if_pos h8]; exact ⟨fun _ => by rw [← hie] at hw; exact hw h8, fun q => absurd q (by show ¬ (1 : Nat) = 2; decide), fun q => absurd q (by show ¬ (1 : Nat) = 3; decide)⟩)
                · rw [if_pos (show (8 : Int32) < nI (endT S k - k) from lp (a := 8) (by omega) (by omega))]
                  exact on f G2 4 w hcE2 p2 p3 pch pq pn (by omega) (by rw [hsort, if_neg h8]; rfl) (by rw [htk, hsort, if_neg h8]; exact ⟨fun q => absurd q (by show ¬ (4 : Nat) = 1; decide), fun q => absurd q (by show ¬ (4 : Nat) = 2; decide), fun q => absurd q (by show ¬ (4 : Nat) = 3; decide)⟩)
          exact l1 (S.length - k) k f (Int64.ofNat 0) rfl (Nat.le_refl _) (by omega) rfl (fun _ => by rw [Nat.sub_self, List.take_zero]; rfl) (by omega)
        · rw [decide_eq_false hc1, if_pos (by decide), s_digit hck, ci_some]
          by_cases hc2 : clS (S.getD k 0) = 2
          · -- a NUMBER
            have hsort : sortT S k = if endT S k - k ≤ 4 then 2 else 4 := by unfold sortT; rw [if_neg hc1, if_pos hc2]
            have hend : endT S k = enS S 2 (k + 1) := by unfold endT; rw [if_pos (Or.inr hc2), hc2]
            have hend0 : enS S 2 k = endT S k := by rw [hend, enS_y hlt hc2]
            rw [decide_eq_true hc2, if_neg (by decide)]
            have l1 : ∀ (r i f : Nat) (w : Int64), S.length - i = r → k ≤ i → i ≤ S.length → enS S 2 i = enS S 2 k → (i - k ≤ 4 → w = lL (num ((S.drop k).take (i - k)))) → endT S k - i + 3 * (S.length - endT S k) + 11 < f → ∃ G' n', mm_run p_Md_cutAll f 159 [.ref 618, .int (nI n), .int (nI i), .int (nI k), .long w] [] (hp G2) = some (none, hp G') ∧ isMK G' S n' ∧ G'.1 618 2 = 0 ∧ G'.1 618 7 = 0 ∧ G'.1 618 8 = 0 ∧ cutE G G' := by
              intro r
              induction r with
              | zero =>
                intro i f w hr hki hiS hei hw hf2
                obtain ⟨f, rfl⟩ : ∃ g, f = g + 1 := ⟨f - 1, by omega⟩
                have hie : endT S k = i := by rw [← hend0, ← hei]; exact enS_n (fun q => by omega)
                rw [e_Md_cutAll_159, gg_Md_size, Option.bind_some, p3, if_neg (lm (by omega) (by omega)), gg_Md_sort, Option.bind_some, n_sub hki]
                rw [← hie]
                by_cases h8 : endT S k - k ≤ 4
                · rw [if_neg (show ¬ (4 : Int32) < nI (endT S k - k) from lm (a := 4) (by omega) (by decide))]
                  exact on f G2 2 w hcE2 p2 p3 pch pq pn (by omega) (by rw [hsort, if_pos h8]; rfl) (by rw [htk, hsort, if_pos h8]; exact ⟨fun q => absurd q (by show ¬ (2 : Nat) = 1; decide), fun _ => by rw [← hie] at hw; exact hw h8, fun q => absurd q (by show ¬ (2 : Nat) = 3; decide)⟩)
                · rw [if_pos (show (4 : Int32) < nI (endT S k - k) from lp (a := 4) (by omega) (by omega))]
                  exact on f G2 4 w hcE2 p2 p3 pch pq pn (by omega) (by rw [hsort, if_neg h8]; rfl) (by rw [htk, hsort, if_neg h8]; exact ⟨fun q => absurd q (by show ¬ (4 : Nat) = 1; decide), fun q => absurd q (by show ¬ (4 : Nat) = 2; decide), fun q => absurd q (by show ¬ (4 : Nat) = 3; decide)⟩)
              | succ r ih =>
                intro i f w hr hki hiS hei hw hf2
                obtain ⟨f, rfl⟩ : ∃ g, f = g + 1 := ⟨f - 1, by omega⟩
                have hil : i < S.length := by omega
                rw [e_Md_cutAll_159, gg_Md_size, Option.bind_some, p3, if_pos (lp hil (by omega)), gg_Md_tape, Option.bind_some, rr_Md_tape _ (by omega), Option.bind_some, hcell2 i hil, s_digit (hc8 i hil), ci_some, n_sub hki, show nI i + 1 = nI (i + 1) from nI_add i 1]
                by_cases hci : clS (S.getD i 0) = 2
                · have hcl := cl_2 hci
                  have hie1 : i + 1 ≤ endT S k := by rw [← hend0, ← hei, enS_y hil hci]; exact enS_ge S 2 (i + 1)
                  rw [decide_eq_true hci, if_neg (by decide)]
                  by_cases h8 : i - k < 4
                  · rw [if_pos (show nI (i - k) < (4 : Int32) from lp (n := 4) h8 (by decide)), gg_Md_tape, Option.bind_some, rr_Md_tape _ (by omega), Option.bind_some, hcell2 i hil, lL_nI (by omega), hw (by omega), show (10 : Int64) = lL 10 from rfl, lL_mul, lL_add, show 10 * num ((S.drop k).take (i - k)) + S.getD i 0 = (10 * num ((S.drop k).take (i - k)) + (S.getD i 0 - 48)) + 48 by omega, ← lL_add, show (48 : Int64) = lL 48 from rfl, Int64.add_sub_cancel]
                    exact ih (i + 1) f _ (by omega) (by omega) (by omega) (by rw [← enS_y hil hci]; exact hei) (fun _ => by rw [← hsplit i hki hil, num_s]) (by omega)
                  · rw [if_neg (show ¬ nI (i - k) < (4 : Int32) from lm (n := 4) (by omega) (by omega))]
                    exact ih (i + 1) f _ (by omega) (by omega) (by omega) (by rw [← enS_y hil hci]; exact hei) (fun q => by omega) (by omega)
                · have hie : endT S k = i := by rw [← hend0, ← hei]; exact enS_n (fun _ => hci)
                  rw [decide_eq_false hci, if_pos (by decide), gg_Md_sort, Option.bind_some]
                  rw [← hie]
                  by_cases h8 : endT S k - k ≤ 4
                  · rw [if_neg (show ¬ (4 : Int32) < nI (endT S k - k) from lm (a := 4) (by omega) (by decide))]
                    exact on f G2 2 w hcE2 p2 p3 pch pq pn (by omega) (by rw [hsort, if_pos h8]; rfl) (by rw [htk, hsort, if_pos h8]; exact ⟨fun q => absurd q (by show ¬ (2 : Nat) = 1; decide), fun _ => by rw [← hie] at hw; exact hw h8, fun q => absurd q (by show ¬ (2 : Nat) = 3; decide)⟩)
                  · rw [if_pos (show (4 : Int32) < nI (endT S k - k) from lp (a := 4) (by omega) (by omega))]
                    exact on f G2 4 w hcE2 p2 p3 pch pq pn (by omega) (by rw [hsort, if_neg h8]; rfl) (by rw [htk, hsort, if_neg h8]; exact ⟨fun q => absurd q (by show ¬ (4 : Nat) = 1; decide), fun q => absurd q (by show ¬ (4 : Nat) = 2; decide), fun q => absurd q (by show ¬ (4 : Nat) = 3; decide)⟩)
            exact l1 (S.length - k) k f (Int64.ofNat 0) rfl (Nat.le_refl _) (by omega) rfl (fun _ => by rw [Nat.sub_self, List.take_zero]; rfl) (by omega)
          · -- a sign of its own
            have hcl3 := cl_3 hn5 hc1 hc2
            have hend : endT S k = k + 1 := by unfold endT; rw [if_neg (fun q => q.elim hc1 hc2)]
            have hsort : sortT S k = if S.getD k 0 = 59 then 3 else 4 := by unfold sortT; rw [if_neg hc1, if_neg hc2, hcl3]
            rw [decide_eq_false hc2, if_pos (by decide), gg_Md_sort, Option.bind_some, e_Md_isSignOf, lL_nI (show S.getD k 0 < 2147483648 by omega)]
            have hon := fun x w => on f G2 x w hcE2 p2 p3 pch pq pn (by omega)
            rw [hend] at hon
            by_cases h59 : S.getD k 0 = 59
            · rw [if_pos (show nI (S.getD k 0) = (59 : Int32) from lq (n := 59) h59), ci_some, if_neg (by decide)]
              exact hon 3 _ (by rw [hsort, if_pos h59]; rfl) (by rw [htk, hsort, if_pos h59]; exact ⟨fun q => absurd q (by show ¬ (3 : Nat) = 1; decide), fun q => absurd q (by show ¬ (3 : Nat) = 2; decide), fun _ => by rw [h59]⟩)
            · rw [if_neg (show ¬ nI (S.getD k 0) = (59 : Int32) from ln (n := 59) h59 (by omega) (by decide)), ci_some, if_pos rfl]
              exact hon 4 _ (by rw [hsort, if_neg h59]; rfl) (by rw [htk, hsort, if_neg h59]; exact ⟨fun q => absurd q (by show ¬ (4 : Nat) = 1; decide), fun q => absurd q (by show ¬ (4 : Nat) = 2; decide), fun q => absurd q (by show ¬ (4 : Nat) = 3; decide)⟩)
      · -- the end
        have hkS : k = S.length := by omega
        have hqb : enS S 5 (bS S n) = S.length := by rw [← hen]; rw [enS_n (fun q => by omega)]; exact hkS
        have htk : tk S n = (0, S.length, []) := by unfold tk tkS; rw [hqb, if_neg (by omega)]
        rw [e_Md_cutAll_17, gg_Md_size, Option.bind_some, h3, if_neg (lm (by omega) (by omega)), gg_Md_sort, Option.bind_some, uu_Md_sort _ (by omega), Option.bind_some, gg_Md_place, Option.bind_some, gg_Md_size, Option.bind_some, f6o _ _ (by decide), h3, uu_Md_place _ (by omega), Option.bind_some, ww_Md_at, Option.bind_some, ww_Md_fault, Option.bind_some]
        refine ⟨_, n, rfl, ⟨⟨by omega, by rw [htk]; rfl, fun q hq => (hdone q hq).1⟩, fun q hq => ?_⟩, ?_, ?_, f6 _ _ _, ((((hcE.tr (cutE.arr (by omega))).tr (cutE.arr (by omega))).tr (cutE.fld (by omega))).tr (cutE.fld (by omega)))⟩
        · rw [f6o _ _ (show 620 ≠ 618 by decide), f6o _ _ (show 620 ≠ 618 by decide), f6o _ _ (show 620 ≠ 621 by decide), f6o _ _ (show 621 ≠ 618 by decide), f6o _ _ (show 621 ≠ 618 by decide), gsi_i, if_pos rfl, gsi_i, if_pos rfl, f6o _ _ (show 621 ≠ 620 by decide)]
          by_cases e : q = n
          · subst e
            rw [upd_at, upd_at, htk]
            exact ⟨rfl, rfl, fun z => absurd z (by show ¬ (0 : Nat) = 1; decide), fun z => absurd z (by show ¬ (0 : Nat) = 2; decide), fun z => absurd z (by show ¬ (0 : Nat) = 3; decide)⟩
          · rw [upd_ne _ _ e, upd_ne _ _ e]
            exact (hdone q (by omega)).2
        · rw [f6n _ _ (by decide), f6n _ _ (by decide), f6o _ _ (by decide), f6o _ _ (by decide)]; exact h2
        · rw [f6n _ _ (by decide), f6]
  exact key S.length 0 0 mm_fu (gsi (gsi G 618 3 (nI S.length)) 618 2 0) rfl (Nat.zero_le _) (Nat.le_refl _) rfl (by omega) ((cutE.fld (by omega)).tr (cutE.fld (by omega))) (f6 _ _ _) (by rw [f6n _ _ (by decide), f6]) (fun i hi => by rw [f6o _ _ (by decide), f6o _ _ (by decide)]; exact hT.2 i hi) (fun q hq => absurd hq (Nat.not_lt_zero _))
end MTP
