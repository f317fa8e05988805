/-! TAPE (the class) -/
def isTp (G : GG) (S : List Nat) : Prop := (G.1 2 3 = nI S.length ∧ S.length ≤ 1000 ∧ ∀ c ∈ S, okc c) ∧ ∀ i (h : i < S.length), G.1 3 i = nI S[i] ∧ G.1 4 i = nI (clS S[i])
def isKy (G : GG) : Prop := ∀ i, i < 38 → G.2.1 5 i = lL (pkL 32 (resC.getD i []))
/-- the token that is read at the moment -/
def isCu (G : GG) (S : List Nat) (j : Nat) : Prop := (G.1 2 4 = nI (tpl (tk S j)) ∧ G.1 2 5 = nI (bS S (j + 1)) ∧ G.1 2 6 = nI (tso (tk S j)) ∧ G.1 2 7 = valI (tk S j)) ∧ (tso (tk S j) = 1 → G.2.1 2 8 = lL (pkL 32 (tsg (tk S j))))
def byV (v : Int64) (k : Int32) : Int32 := ((v >>> (k.toInt64 &&& 63)) &&& (255 : Int64)).toInt32
def byN (v : Int64) (k : Int32) : Nat := (byV v k).toNatClampNeg
theorem and255 (x : Int32) : ∃ n, n < 256 ∧ x &&& 255 = nI n := by
  refine ⟨x.toBitVec.toNat % 256, Nat.mod_lt _ (by decide), ?_⟩
  apply b_ext
  intro i hi
  rw [b_and, b_255, bt_nI _ hi, show (256 : Nat) = 2 ^ 8 from rfl, Nat.testBit_mod_two_pow, Bool.and_comm]
  congr 1
theorem byV_ok (v : Int64) (k : Int32) : byV v k = nI (byN v k) ∧ byN v k < 256 := by
  obtain ⟨n, hn, e⟩ := and255 (v >>> (k.toInt64 &&& 63)).toInt32
  have e2 : byV v k = nI n := by
    unfold byV
    rw [Int64.toInt32_and]
    exact e
  unfold byN
  rw [e2, nI_tn (by omega)]
  exact ⟨rfl, hn⟩
def layS (S : List Nat) (c : Nat) : List Nat := if (c = 10 ∨ (32 ≤ c ∧ c ≤ 126)) ∧ S.length < 1000 then S ++ [c] else S
def layV (S : List Nat) (v : Int64) : List Nat := layS (layS (layS (layS (layS (layS (layS (layS S (byN v 56)) (byN v 48)) (byN v 40)) (byN v 32)) (byN v 24)) (byN v 16)) (byN v 8)) (byN v 0)
theorem nar_c : ∀ c, c < 128 → vp_nar .byte (nI c) = nI c := by decide +kernel
theorem nar_c' {c : Nat} (h : c < 128) : vp_nar .byte (nI c).toInt8.toInt32 = nI c := by
  have := nar_c c h
  rw [vp_nar_byte] at this
  rw [this]
  exact nar_c c h
def sfI (v0 : Int32) : Int32 := if v0 = 10 then 5 else if v0 = 32 then 5 else if v0 < 97 then (if v0 < 48 then (if v0 = 59 then 3 else 4) else if (57 : Int32) < v0 then (if v0 = 59 then 3 else 4) else 2) else if (122 : Int32) < v0 then (if v0 < 48 then (if v0 = 59 then 3 else 4) else if (57 : Int32) < v0 then (if v0 = 59 then 3 else 4) else 2) else 1
theorem sfI_c : ∀ c, c < 128 → sfI (nI c) = nI (clS c) := by decide +kernel
theorem s_Tp_sortFor {c : Nat} (hc : c < 128) (h : mm_H) : f_Tp_sortFor [.int (nI c)] h = some (some (.int (nI (clS c))), h) := by
  rw [← sfI_c c hc, e_Tp_sortFor]
  unfold sfI
  repeat' split
  all_goals rfl
theorem f2 (G : GG) (k : Nat) (v : Int32) : (gsi G 2 k v).1 2 k = v := by rw [gsi_i, if_pos rfl, upd_at]
theorem f2n (G : GG) {k j : Nat} (v : Int32) (h : j ≠ k) : (gsi G 2 k v).1 2 j = G.1 2 j := by rw [gsi_i, if_pos rfl, upd_ne _ _ h]
theorem o2 (G : GG) (k : Nat) (v : Int32) : eqOff (fun n => n = 2) G (gsi G 2 k v) := eqOff.gsi k v rfl
theorem o2l (G : GG) (k : Nat) (v : Int64) : eqOff (fun n => n = 2) G (gsl G 2 k v) := eqOff.gsl k v rfl
abbrev tpR : Nat → Prop := fun n => n = 2 ∨ n = 3 ∨ n = 4
section TPS
variable {G G' : GG} {S : List Nat}
theorem isTp.len (h : isTp G S) : S.length ≤ 1000 := h.1.2.1
/-- a sign is laid -/
theorem s_lay1 (hT : isTp G S) {c : Nat} (hc : okc c) (hl : S.length < 1000) : isTp (gsi (gsi (gsi G 3 S.length (nI c)) 4 S.length (nI (clS c))) 2 3 (nI (S.length + 1))) (S ++ [c]) := by
  obtain ⟨⟨h1, h2, h3⟩, h4⟩ := hT
  refine ⟨⟨?_, by rw [List.length_append]; show S.length + 1 ≤ 1000; omega, fun x hx => ?_⟩, fun i hi => ?_⟩
  · rw [gsi_i, if_pos rfl, upd_at, List.length_append]; rfl
  · rcases List.mem_append.mp hx with q | q
    · exact h3 x q
    · rw [show x = c by simpa using q]; exact hc
  · rw [List.length_append] at hi
    simp only [List.length_cons, List.length_nil] at hi
    rw [gsi_i, if_neg (by decide), gsi_i, if_neg (by decide), gsi_i, if_pos rfl, gsi_i, if_neg (by decide), gsi_i, if_pos rfl, gsi_i, if_neg (by decide)]
    by_cases e : i = S.length
    · subst e
      rw [upd_at, upd_at]
      simp
    · rw [upd_ne _ _ e, upd_ne _ _ e, List.getElem_append_left (by omega)]
      exact h4 i (by omega)
theorem s_lay_step (hT : isTp G S) (v : Int64) {k : Int32} (hk : ¬ k < 0) (f : Nat) : ∃ G', mm_run p_Tp_lay (f + 1) 3 [.ref 2, .long v, .int k] [] (hp G) = mm_run p_Tp_lay f 3 [.ref 2, .long v, .int (k + (-8))] [] (hp G') ∧ isTp G' (layS S (byN v k)) ∧ eqOff tpR G G' := by
  obtain ⟨e1, e2⟩ := byV_ok v k
  have hl := hT.len
  rw [e_Tp_lay_3, if_neg hk]
  change ∃ G', (if byV v k = 10 then _ else if byV v k < 32 then _ else if (126 : Int32) < byV v k then _ else _) = _ ∧ _
  have put : okc (byN v k) → ∃ G', ((mm_gi 9 3 (hp G) 2).bind fun x1 => if x1 < 1000 then (mm_gr 9 0 (hp G) 2).bind fun r2 => (mm_gi 9 3 (hp G) 2).bind fun x3 => (mm_sb (hp G) r2 x3 (byV v k).toInt8.toInt32).bind fun h4 => (mm_gr 9 1 h4 2).bind fun r5 => (mm_gi 9 3 h4 2).bind fun x6 => mm_ci (f_Tp_sortFor [.int (byV v k)] h4) fun x8 h7 => (mm_sb h7 r5 x6 x8.toInt8.toInt32).bind fun h9 => (mm_gi 9 3 h9 2).bind fun x10 => (mm_pf 9 3 (.int (x10 + 1)) h9 2).bind fun h11 => mm_run p_Tp_lay f 3 [.ref 2, .long v, .int (k + (-8))] [] h11 else mm_run p_Tp_lay f 3 [.ref 2, .long v, .int (k + (-8))] [] (hp G)) = mm_run p_Tp_lay f 3 [.ref 2, .long v, .int (k + (-8))] [] (hp G') ∧ isTp G' (layS S (byN v k)) ∧ eqOff tpR G G' := by
    intro hc
    have hc8 := okc_lt hc
    rw [gg_Tp_length, Option.bind_some, hT.1.1, e1]
    unfold layS
    by_cases hlt : S.length < 1000
    · have h3 : (gsi G 3 S.length (nI (byN v k))).1 2 3 = nI S.length := by rw [gsi_i, if_neg (by decide)]; exact hT.1.1
      have h4 : (gsi (gsi G 3 S.length (nI (byN v k))) 4 S.length (nI (clS (byN v k)))).1 2 3 = nI S.length := by rw [gsi_i, if_neg (by decide)]; exact h3
      rw [if_pos (show nI S.length < (1000 : Int32) from lp (n := 1000) hlt (by decide)), gg_Tp_sign, Option.bind_some, Option.bind_some, uu_Tp_sign _ (by omega), Option.bind_some, nar_c' hc8, gg_Tp_sortOf, Option.bind_some, gg_Tp_length, Option.bind_some, h3, s_Tp_sortFor hc8, ci_some, uu_Tp_sortOf _ (by omega), Option.bind_some, nar_c' (by have := clS_le (byN v k); omega), gg_Tp_length, Option.bind_some, h4, show nI S.length + 1 = nI (S.length + 1) from nI_add _ 1, ww_Tp_length, Option.bind_some, if_pos ⟨hc, hlt⟩]
      exact ⟨_, rfl, s_lay1 hT hc hlt, ((eqOff.gsi _ _ (by unfold tpR; omega)).tr (eqOff.gsi _ _ (by unfold tpR; omega))).tr (eqOff.gsi _ _ (by unfold tpR; omega))⟩
    · rw [if_neg (show ¬ nI S.length < (1000 : Int32) from lm (n := 1000) (by omega) (by omega)), if_neg (fun q => hlt q.2)]
      exact ⟨G, rfl, hT, eqOff.rf⟩
  have no : ¬ okc (byN v k) → layS S (byN v k) = S := fun h => if_neg (fun q => h q.1)
  by_cases c10 : byN v k = 10
  · rw [if_pos (show byV v k = 10 by rw [e1, c10]; rfl)]
    exact put (Or.inl c10)
  · rw [if_neg (show ¬ byV v k = 10 by rw [e1]; exact ln (n := 10) c10 (by omega) (by decide))]
    by_cases c32 : byN v k < 32
    · rw [if_pos (show byV v k < 32 by rw [e1]; exact lp (n := 32) c32 (by decide)), no (fun q => by unfold okc at q; omega)]
      exact ⟨G, rfl, hT, eqOff.rf⟩
    · rw [if_neg (show ¬ byV v k < 32 by rw [e1]; exact lm (n := 32) (by omega) (by omega))]
      by_cases c126 : 126 < byN v k
      · rw [if_pos (show (126 : Int32) < byV v k by rw [e1]; exact lp (a := 126) c126 (by omega)), no (fun q => by unfold okc at q; omega)]
        exact ⟨G, rfl, hT, eqOff.rf⟩
      · rw [if_neg (show ¬ (126 : Int32) < byV v k by rw [e1]; exact lm (a := 126) (by omega) (by decide))]
        exact put (Or.inr ⟨by omega, by omega⟩)
theorem s_Tp_lay (hT : isTp G S) (v : Int64) : ∃ G', f_Tp_lay [.ref 2, .long v] (hp G) = some (none, hp G') ∧ isTp G' (layV S v) ∧ eqOff tpR G G' := by
  obtain ⟨f, hf⟩ : ∃ f, mm_fu = f + 9 := ⟨mm_fu - 9, by have := @fu_lt 100 (by omega); omega⟩
  rw [e_Tp_lay 2 _ _ (ob_Tp G), hf]
  obtain ⟨G1, a1, b1, c1⟩ := s_lay_step hT v (k := 56) (by decide) (f + 8)
  obtain ⟨G2, a2, b2, c2⟩ := s_lay_step b1 v (k := 48) (by decide) (f + 7)
  obtain ⟨G3, a3, b3, c3⟩ := s_lay_step b2 v (k := 40) (by decide) (f + 6)
  obtain ⟨G4, a4, b4, c4⟩ := s_lay_step b3 v (k := 32) (by decide) (f + 5)
  obtain ⟨G5, a5, b5, c5⟩ := s_lay_step b4 v (k := 24) (by decide) (f + 4)
  obtain ⟨G6, a6, b6, c6⟩ := s_lay_step b5 v (k := 16) (by decide) (f + 3)
  obtain ⟨G7, a7, b7, c7⟩ := s_lay_step b6 v (k := 8) (by decide) (f + 2)
  obtain ⟨G8, a8, b8, c8⟩ := s_lay_step b7 v (k := 0) (by decide) (f + 1)
  refine ⟨G8, ?_, b8, ((((((c1.tr c2).tr c3).tr c4).tr c5).tr c6).tr c7).tr c8⟩
  rw [a1, show (56 : Int32) + (-8) = 48 from rfl, a2, show (48 : Int32) + (-8) = 40 from rfl, a3, show (40 : Int32) + (-8) = 32 from rfl, a4, show (32 : Int32) + (-8) = 24 from rfl, a5, show (24 : Int32) + (-8) = 16 from rfl, a6, show (16 : Int32) + (-8) = 8 from rfl, a7, show (8 : Int32) + (-8) = 0 from rfl, a8, e_Tp_lay_3, if_pos (by decide)]
/-- what the signs from q to e mean -/
theorem s_signs (hT : isTp G S) (hK : isKy G) {q e k : Nat} (hqe : q ≤ e) (heS : e ≤ S.length) (h4 : G.1 2 4 = nI q) (h5 : G.1 2 5 = nI e) (h6 : G.1 2 6 = nI k) (hk : k ≤ 5) (hw : k = 1 → ∀ i, q ≤ i → i < e → clS (S.getD i 0) = 1) (hd : k = 2 → ∀ i, q ≤ i → i < e → clS (S.getD i 0) = 2) : ∃ G', f_Tp_readSigns [.ref 2] (hp G) = some (none, hp G') ∧ eqOff (fun n => n = 2) G G' ∧ (∀ j, j = 3 ∨ j = 4 ∨ j = 5 → G'.1 2 j = G.1 2 j) ∧ G'.1 2 6 = nI (if k = 1 then (if e - q ≤ 8 then 1 else 4) else if k = 2 then (if e - q ≤ 4 then 2 else 4) else k) ∧ G'.1 2 7 = (if k = 1 ∧ e - q ≤ 8 then wxI ((S.drop q).take (e - q)) else if k = 2 ∧ e - q ≤ 4 then nI (num ((S.drop q).take (e - q))) else -1) ∧ (k = 1 ∧ e - q ≤ 8 → G'.2.1 2 8 = lL (pkL 32 ((S.drop q).take (e - q)))) := by
  have hl := hT.len
  rw [e_Tp_readSigns 2 _ (ob_Tp G), gg_Tp_behind, Option.bind_some, gg_Tp_place, Option.bind_some, h4, h5, n_sub hqe, ww_Tp_value, Option.bind_some, ww_Tp_letters, Option.bind_some]
  generalize hG1 : gsl (gsi G 2 7 (-1)) 2 8 (Int64.ofNat 0) = G1
  have hq1 : eqOff (fun n => n = 2) G G1 := by rw [← hG1]; exact (o2 _ _ _).tr (o2l _ _ _)
  have g1 : ∀ j, j ≠ 7 → G1.1 2 j = G.1 2 j := fun j hj => by rw [← hG1, gsl_i]; exact f2n G _ hj
  have g17 : G1.1 2 7 = -1 := by rw [← hG1, gsl_i]; exact f2 G 7 _
  have g18 : G1.2.1 2 8 = lL 0 := by rw [← hG1, gsl_l, if_pos rfl]; show vp_updL _ 8 _ 8 = _; unfold vp_updL; rw [if_pos rfl]; rfl
  rw [gg_Tp_sort, Option.bind_some, g1 6 (by decide), h6]
  have hsg : ∀ {G2 : GG}, eqOff (fun n => n = 2) G G2 → ∀ i, i < S.length → G2.1 3 i = nI (S.getD i 0) := fun {G2} hq i hi => by rw [(hq 3 (by decide)).1, getD_get hi]; exact (hT.2 i hi).1
  have htk : ∀ i, q ≤ i → i < e → (S.drop q).take (i - q) ++ [S.getD i 0] = (S.drop q).take (i + 1 - q) := fun i h1 h2 => by
    rw [show i + 1 - q = (i - q) + 1 by omega, ← List.take_append_getElem (show i - q < (S.drop q).length by rw [List.length_drop]; omega), List.getElem_drop, getD_get (by omega)]
    congr 3
    omega
  -- another sort, or too long
  have oth : ∀ (f : Nat), (∀ j, k = 1 → ¬ e - q ≤ 8) → (k = 2 → ¬ e - q ≤ 4) → ∃ G', mm_run p_Tp_readSigns (f + 1) 128 [.ref 2, .int (nI (e - q))] [] (hp G1) = some (none, hp G') ∧ eqOff (fun n => n = 2) G G' ∧ (∀ j, j = 3 ∨ j = 4 ∨ j = 5 → G'.1 2 j = G.1 2 j) ∧ G'.1 2 6 = nI (if k = 1 then (if e - q ≤ 8 then 1 else 4) else if k = 2 then (if e - q ≤ 4 then 2 else 4) else k) ∧ G'.1 2 7 = -1 := fun f hn1 hn2 => by
    have bad : ∃ G', ((mm_pf 9 6 (.int 4) (hp G1) 2).bind fun h3 => (some (none, h3) : Option (Option Value × mm_H))) = some (none, hp G') ∧ eqOff (fun n => n = 2) G G' ∧ (∀ j, j = 3 ∨ j = 4 ∨ j = 5 → G'.1 2 j = G.1 2 j) ∧ G'.1 2 6 = nI 4 ∧ G'.1 2 7 = -1 := by
      rw [ww_Tp_sort, Option.bind_some]
      exact ⟨_, rfl, hq1.tr (o2 _ _ _), fun j hj => by rw [f2n _ _ (by omega), g1 j (by omega)], f2 _ _ _, by rw [f2n _ _ (by decide)]; exact g17⟩
    rw [e_Tp_readSigns_128, gg_Tp_sort, Option.bind_some, g1 6 (by decide), h6]
    by_cases k2 : k = 2
    · rw [if_pos (show nI k = (2 : Int32) from lq (n := 2) k2), if_pos (show (4 : Int32) < nI (e - q) from lp (a := 4) (by have := hn2 k2; omega) (by omega)), Option.bind_some, if_neg (show ¬ nI k = (1 : Int32) from ln (n := 1) (by omega) (by omega) (by decide)), Option.bind_some, if_pos (show nI k = (2 : Int32) from lq (n := 2) k2), if_neg (show ¬ k = 1 by omega), if_pos k2, if_neg (hn2 k2)]
      exact bad
    · rw [if_neg (show ¬ nI k = (2 : Int32) from ln (n := 2) k2 (by omega) (by decide)), Option.bind_some]
      by_cases k1 : k = 1
      · rw [if_pos (show nI k = (1 : Int32) from lq (n := 1) k1), if_pos k1, if_neg (hn1 0 k1)]
        exact bad
      · rw [if_neg (show ¬ nI k = (1 : Int32) from ln (n := 1) k1 (by omega) (by decide)), Option.bind_some, if_neg (show ¬ nI k = (2 : Int32) from ln (n := 2) k2 (by omega) (by decide)), if_neg k1, if_neg k2]
        exact ⟨G1, rfl, hq1, fun j hj => g1 j (by omega), by rw [g1 6 (by decide)]; exact h6, g17⟩
  obtain ⟨f0, hf0, hf0b⟩ : ∃ g, mm_fu = g + 1 ∧ 5000 < g := ⟨mm_fu - 1, by have := @fu_lt 9999 (by omega); omega, by have := @fu_lt 9999 (by omega); omega⟩
  by_cases k1 : k = 1
  · rw [if_pos (show nI k = (1 : Int32) from lq (n := 1) k1)]
    by_cases h8 : e - q ≤ 8
    · rw [if_neg (show ¬ (8 : Int32) < nI (e - q) from lm (a := 8) (by omega) (by decide)), gg_Tp_place, Option.bind_some, g1 4 (by decide), h4]
      -- the letters
      have l1 : ∀ (m i f : Nat) (G2 : GG), i + m = e → q ≤ i → m < f → eqOff (fun n => n = 2) G G2 → (∀ j, j ≠ 7 → G2.1 2 j = G.1 2 j) → G2.1 2 7 = -1 → G2.2.1 2 8 = lL (pkL 32 ((S.drop q).take (i - q))) → ∃ G3, mm_run p_Tp_readSigns f 39 [.ref 2, .int (nI i)] [] (hp G2) = mm_run p_Tp_readSigns (f - (m + 1)) 87 [.ref 2, .int 0] [] (hp G3) ∧ eqOff (fun n => n = 2) G G3 ∧ (∀ j, j ≠ 7 → G3.1 2 j = G.1 2 j) ∧ G3.1 2 7 = -1 ∧ G3.2.1 2 8 = lL (pkL 32 ((S.drop q).take (e - q))) := by
        intro m
        induction m with
        | zero =>
          intro i f G2 hi hq hf hq2 hj h7 h8'
          obtain ⟨f, rfl⟩ : ∃ g, f = g + 1 := ⟨f - 1, by omega⟩
          have hie : i = e := by omega
          subst hie
          rw [e_Tp_readSigns_39, gg_Tp_behind, Option.bind_some, hj 5 (by decide), h5, if_neg (lm (Nat.le_refl _) (by omega))]
          exact ⟨G2, rfl, hq2, hj, h7, h8'⟩
        | succ m ih =>
          intro i f G2 hi hq hf hq2 hj h7 h8'
          obtain ⟨f, rfl⟩ : ∃ g, f = g + 1 := ⟨f - 1, by omega⟩
          have hc1 := hw k1 i hq (by omega)
          have hcl : 97 ≤ S.getD i 0 ∧ S.getD i 0 ≤ 122 := by
            unfold clS at hc1
            split at hc1
            · omega
            · split at hc1
              · assumption
              · split at hc1
                · omega
                · split at hc1 <;> omega
          have harith : ((nI (S.getD i 0) - 97) + 1).toInt64 = lL (S.getD i 0 - 96) := by
            rw [show nI (S.getD i 0) - 97 = nI (S.getD i 0 - 97) from n_sub (b := 97) (by omega), show nI (S.getD i 0 - 97) + 1 = nI (S.getD i 0 - 97 + 1) from nI_add _ 1, lL_nI (by omega), show S.getD i 0 - 97 + 1 = S.getD i 0 - 96 by omega]
          rw [e_Tp_readSigns_39, gg_Tp_behind, Option.bind_some, hj 5 (by decide), h5, if_pos (lp (by omega) (by omega)), if_pos (show nI i < (1000 : Int32) from lp (n := 1000) (by omega) (by decide)), gg_Tp_letters, Option.bind_some, gg_Tp_sign, Option.bind_some, rr_Tp_sign _ (by omega), Option.bind_some, hsg hq2 i (by omega), h8', harith, show (32 : Int64) = lL 32 from rfl, lL_mul, lL_add, ww_Tp_letters, Option.bind_some, show nI i + 1 = nI (i + 1) from nI_add i 1]
          obtain ⟨G3, r1, r2⟩ := ih (i + 1) f (gsl G2 2 8 (lL (pkL 32 ((S.drop q).take (i - q)) * 32 + (S.getD i 0 - 96)))) (by omega) (by omega) (by omega) (hq2.tr (o2l _ _ _)) (fun j hj' => by rw [gsl_i]; exact hj j hj') (by rw [gsl_i]; exact h7) (by
            rw [gsl_l, if_pos rfl]
            show vp_updL _ 8 _ 8 = _
            unfold vp_updL
            rw [if_pos rfl, ← htk i hq (by omega), pkL_s, Nat.mul_comm])
          exact ⟨G3, by rw [r1, show f + 1 - (m + 1 + 1) = f - (m + 1) by omega], r2⟩
      obtain ⟨G2, a1, a2, a3, a4, a5⟩ := l1 (e - q) q mm_fu G1 (by omega) (Nat.le_refl _) (fu_lt (by omega)) hq1 g1 g17 (by rw [Nat.sub_self, List.take_zero]; exact g18)
      rw [a1]
      -- its place in the language
      have hlet : ∀ c ∈ (S.drop q).take (e - q), 97 ≤ c ∧ c ≤ 122 := fun c hcm => by
        obtain ⟨i, hi, ei⟩ := List.mem_iff_getElem.mp hcm
        rw [List.length_take, List.length_drop] at hi
        rw [List.getElem_take, List.getElem_drop] at ei
        have hc1 := hw k1 (q + i) (by omega) (by omega)
        rw [getD_get (by omega), ei] at hc1
        unfold clS at hc1
        split at hc1
        · omega
        · split at hc1
          · assumption
          · split at hc1
            · omega
            · split at hc1 <;> omega
      have hlen : ((S.drop q).take (e - q)).length ≤ 8 := by rw [List.length_take]; omega
      generalize hwd : (S.drop q).take (e - q) = w at a5 hlet hlen ⊢
      have hkeyeq : ∀ i, i < 38 → (lL (pkL 32 (resC.getD i [])) = lL (pkL 32 w) ↔ resC.getD i [] = w) := fun i hi => by
        obtain ⟨r1, r2, -⟩ := resC_ok i hi
        have b1 := pkL_lt (b := 32) (by decide) _ r2
        have b2 := pkL_lt (b := 32) (by decide) _ hlet
        have p1 : 32 ^ (resC.getD i []).length ≤ 32 ^ 8 := Nat.pow_le_pow_right (by decide) r1
        have p2 : 32 ^ w.length ≤ 32 ^ 8 := Nat.pow_le_pow_right (by decide) hlen
        refine ⟨fun h => ?_, fun h => by rw [h]⟩
        exact pkL_inj (b := 32) (by decide) _ _ _ rfl r2 hlet (lL_inj (by omega) (by omega) h)
      have l2 : ∀ (m i f : Nat) (G3 : GG) (x : Int32), i + m = 38 → m < f → eqOff (fun n => n = 2) G G3 → (∀ j, j ≠ 7 → G3.1 2 j = G.1 2 j) → G3.1 2 7 = x → G3.2.1 2 8 = lL (pkL 32 w) → (x = wxI w ∨ (x = -1 ∧ ∀ j, j < i → resC.getD j [] ≠ w)) → (x = wxI w ∨ ∀ j, j < i → resC.getD j [] ≠ w) → ∃ G4, mm_run p_Tp_readSigns f 87 [.ref 2, .int (nI i)] [] (hp G3) = some (none, hp G4) ∧ eqOff (fun n => n = 2) G G4 ∧ (∀ j, j ≠ 7 → G4.1 2 j = G.1 2 j) ∧ G4.1 2 7 = wxI w ∧ G4.2.1 2 8 = lL (pkL 32 w) := by
        intro m
        induction m with
        | zero =>
          intro i f G3 x hi hf hq3 hj h7 h8' hx _
          obtain ⟨f, rfl⟩ : ∃ g, f = g + 1 := ⟨f - 1, by omega⟩
          have hi38 : i = 38 := by omega
          subst hi38
          rw [e_Tp_readSigns_87, if_neg (show ¬ nI 38 < (38 : Int32) by decide)]
          refine ⟨G3, rfl, hq3, hj, ?_, h8'⟩
          rcases hx with q | ⟨q1, q2⟩
          · rw [h7, q]
          · rw [h7, q1]
            unfold wxI
            cases hwx : wx w with
            | none => rfl
            | some i => obtain ⟨z1, z2⟩ := wx_some hwx; exact absurd z2 (q2 i z1)
        | succ m ih =>
          intro i f G3 x hi hf hq3 hj h7 h8' hx hx2
          obtain ⟨f, rfl⟩ : ∃ g, f = g + 1 := ⟨f - 1, by omega⟩
          have hky : G3.2.1 5 i = lL (pkL 32 (resC.getD i [])) := by rw [(hq3 5 (by decide)).2.1]; exact hK i (by omega)
          rw [e_Tp_readSigns_87, if_pos (show nI i < (38 : Int32) from lp (n := 38) (by omega) (by decide)), gg_Tp_keys, Option.bind_some, rr_Tp_keys _ (by omega), Option.bind_some, gg_Tp_letters, Option.bind_some, hky, h8', show nI i + 1 = nI (i + 1) from nI_add i 1]
          by_cases he : resC.getD i [] = w
          · have hwx : wxI w = nI i := by unfold wxI; rw [wx_of (by omega) he]
            rw [if_pos (by rw [cmp_0]; exact (hkeyeq i (by omega)).mpr he), ww_Tp_value, Option.bind_some]
            exact ih (i + 1) f _ (nI i) (by omega) (by omega) (hq3.tr (o2 _ _ _)) (fun j hj' => by rw [f2n _ _ hj']; exact hj j hj') (f2 _ _ _) h8' (Or.inl hwx.symm) (Or.inl hwx.symm)
          · rw [if_neg (by rw [cmp_0]; exact fun q => he ((hkeyeq i (by omega)).mp q)), gg_Tp_value, Option.bind_some, h7, ww_Tp_value, Option.bind_some]
            refine ih (i + 1) f _ x (by omega) (by omega) (hq3.tr (o2 _ _ _)) (fun j hj' => by rw [f2n _ _ hj']; exact hj j hj') (f2 _ _ _) h8' ?_ ?_
            · rcases hx with q | ⟨q1, q2⟩
              · exact Or.inl q
              · exact Or.inr ⟨q1, fun j hj' => by
                  by_cases ej : j = i
                  · rw [ej]; exact he
                  · exact q2 j (by omega)⟩
            · rcases hx2 with q | q
              · exact Or.inl q
              · exact Or.inr (fun j hj' => by
                  by_cases ej : j = i
                  · rw [ej]; exact he
                  · exact q j (by omega))
      obtain ⟨G4, b1, b2, b3, b4, b5⟩ := l2 38 0 (mm_fu - (e - q + 1)) G2 (-1) (by omega) (by omega) a2 a3 a4 a5 (Or.inr ⟨rfl, fun j hj => absurd hj (Nat.not_lt_zero _)⟩) (Or.inr (fun j hj => absurd hj (Nat.not_lt_zero _)))
      refine ⟨G4, b1, b2, fun j hj => b3 j (by omega), ?_, ?_, fun _ => b5⟩
      · rw [b3 6 (by decide), h6, if_pos k1, if_pos h8, k1]
      · rw [b4, if_pos ⟨k1, h8⟩]
    · rw [if_pos (show (8 : Int32) < nI (e - q) from lp (a := 8) (by omega) (by omega)), hf0]
      obtain ⟨G', r1, r2, r3, r4, r5⟩ := oth f0 (fun _ _ => h8) (fun q => by omega)
      exact ⟨G', r1, r2, r3, r4, by rw [r5, if_neg (fun q => h8 q.2), if_neg (fun q => by omega)], fun q => absurd q.2 h8⟩
  · rw [if_neg (show ¬ nI k = (1 : Int32) from ln (n := 1) k1 (by omega) (by decide)), hf0]
    by_cases h24 : k = 2 ∧ e - q ≤ 4
    · obtain ⟨k2, h4'⟩ := h24
      rw [e_Tp_readSigns_128, gg_Tp_sort, Option.bind_some, g1 6 (by decide), h6, if_pos (show nI k = (2 : Int32) from lq (n := 2) k2), if_neg (show ¬ (4 : Int32) < nI (e - q) from lm (a := 4) (by omega) (by decide)), ww_Tp_value, Option.bind_some, gg_Tp_place, Option.bind_some, f2n _ _ (by decide), g1 4 (by decide), h4]
      have l1 : ∀ (m i f : Nat) (G2 : GG), i + m = e → q ≤ i → m < f → eqOff (fun n => n = 2) G G2 → (∀ j, j ≠ 7 → G2.1 2 j = G.1 2 j) → G2.1 2 7 = nI (num ((S.drop q).take (i - q))) → ∃ G3, mm_run p_Tp_readSigns f 151 [.ref 2, .int (nI i)] [] (hp G2) = some (none, hp G3) ∧ eqOff (fun n => n = 2) G G3 ∧ (∀ j, j ≠ 7 → G3.1 2 j = G.1 2 j) ∧ G3.1 2 7 = nI (num ((S.drop q).take (e - q))) := by
        intro m
        induction m with
        | zero =>
          intro i f G2 hi hq hf hq2 hj h7
          obtain ⟨f, rfl⟩ : ∃ g, f = g + 1 := ⟨f - 1, by omega⟩
          have hie : i = e := by omega
          subst hie
          rw [e_Tp_readSigns_151, gg_Tp_behind, Option.bind_some, hj 5 (by decide), h5, if_neg (lm (Nat.le_refl _) (by omega))]
          exact ⟨G2, rfl, hq2, hj, h7⟩
        | succ m ih =>
          intro i f G2 hi hq hf hq2 hj h7
          obtain ⟨f, rfl⟩ : ∃ g, f = g + 1 := ⟨f - 1, by omega⟩
          have hc1 := hd k2 i hq (by omega)
          have hcl : 48 ≤ S.getD i 0 ∧ S.getD i 0 ≤ 57 := by
            unfold clS at hc1
            split at hc1
            · omega
            · split at hc1
              · omega
              · split at hc1
                · assumption
                · split at hc1 <;> omega
          rw [e_Tp_readSigns_151, gg_Tp_behind, Option.bind_some, hj 5 (by decide), h5, if_pos (lp (by omega) (by omega)), if_pos (show nI i < (1000 : Int32) from lp (n := 1000) (by omega) (by decide)), gg_Tp_value, Option.bind_some, gg_Tp_sign, Option.bind_some, rr_Tp_sign _ (by omega), Option.bind_some, hsg hq2 i (by omega), h7, show nI (S.getD i 0) - 48 = nI (S.getD i 0 - 48) from n_sub (b := 48) (by omega), show nI (num ((S.drop q).take (i - q))) * 10 = nI (num ((S.drop q).take (i - q)) * 10) from n_mul _ 10, i_add, ww_Tp_value, Option.bind_some, show nI i + 1 = nI (i + 1) from nI_add i 1]
          exact ih (i + 1) f _ (by omega) (by omega) (by omega) (hq2.tr (o2 _ _ _)) (fun j hj' => by rw [f2n _ _ hj']; exact hj j hj') (by rw [f2, ← htk i hq (by omega), num_s, Nat.mul_comm])
      obtain ⟨G4, b1, b2, b3, b4⟩ := l1 (e - q) q f0 (gsi G1 2 7 0) (by omega) (Nat.le_refl _) (by omega) (hq1.tr (o2 _ _ _)) (fun j hj => by rw [f2n _ _ hj]; exact g1 j hj) (by rw [f2, Nat.sub_self, List.take_zero]; rfl)
      refine ⟨G4, b1, b2, fun j hj => b3 j (by omega), ?_, ?_, fun q => absurd q.1 k1⟩
      · rw [b3 6 (by decide), h6, if_neg k1, if_pos k2, if_pos h4', k2]
      · rw [b4, if_neg (fun q => k1 q.1), if_pos ⟨k2, h4'⟩]
    · obtain ⟨G', r1, r2, r3, r4, r5⟩ := oth f0 (fun _ q => absurd q k1) (fun q w => h24 ⟨q, w⟩)
      exact ⟨G', r1, r2, r3, r4, by rw [r5, if_neg (fun q => k1 q.1), if_neg h24], fun q => absurd q.1 k1⟩
/-- on to the next token -/
theorem s_readOn (hT : isTp G S) (hK : isKy G) {j : Nat} (h5 : G.1 2 5 = nI (bS S j)) : ∃ G', f_Tp_readOn [.ref 2] (hp G) = some (none, hp G') ∧ isCu G' S j ∧ isTp G' S ∧ isKy G' ∧ eqOff (fun n => n = 2) G G' := by
  have hl := hT.len
  have hbS := bS_le S j
  rw [e_Tp_readOn 2 _ (ob_Tp G), gg_Tp_behind, Option.bind_some, h5, ww_Tp_place, Option.bind_some]
  have hso : ∀ {G2 : GG}, eqOff (fun n => n = 2) G G2 → ∀ i, i < S.length → G2.1 4 i = nI (clS (S.getD i 0)) := fun {G2} hq i hi => by rw [(hq 4 (by decide)).1, getD_get hi]; exact (hT.2 i hi).2
  -- blanks
  have l1 : ∀ (m q f : Nat) (G2 : GG), S.length - q = m → q ≤ S.length → m < f → eqOff (fun n => n = 2) G G2 → G2.1 2 3 = nI S.length → G2.1 2 4 = nI q → ∃ G3 f', f ≤ f' + m + 1 ∧ mm_run p_Tp_readOn f 8 [.ref 2] [] (hp G2) = mm_run p_Tp_readOn f' 55 [.ref 2] [] (hp G3) ∧ eqOff (fun n => n = 2) G G3 ∧ G3.1 2 3 = nI S.length ∧ G3.1 2 4 = nI (enS S 5 q) := by
    intro m
    induction m with
    | zero =>
      intro q f G2 hm hq hf hq2 h3 h4
      obtain ⟨f, rfl⟩ : ∃ g, f = g + 1 := ⟨f - 1, by omega⟩
      rw [e_Tp_readOn_8, gg_Tp_place, Option.bind_some, gg_Tp_length, Option.bind_some, h3, h4, if_neg (lm (by omega) (by omega))]
      exact ⟨G2, f, by omega, rfl, hq2, h3, by rw [enS_n (fun q' => by omega)]; exact h4⟩
    | succ m ih =>
      intro q f G2 hm hq hf hq2 h3 h4
      obtain ⟨f, rfl⟩ : ∃ g, f = g + 1 := ⟨f - 1, by omega⟩
      have hcl := clS_le (S.getD q 0)
      rw [e_Tp_readOn_8, gg_Tp_place, Option.bind_some, gg_Tp_length, Option.bind_some, h3, h4, if_pos (lp (by omega) (by omega)), Option.bind_some, if_pos (show nI q < (1000 : Int32) from lp (n := 1000) (by omega) (by decide)), gg_Tp_sortOf, Option.bind_some, Option.bind_some, rr_Tp_sortOf _ (by omega), Option.bind_some, hso hq2 q (by omega)]
      by_cases hb : clS (S.getD q 0) = 5
      · rw [if_pos (show nI (clS (S.getD q 0)) = (5 : Int32) from lq (n := 5) hb), Option.bind_some, show nI q + 1 = nI (q + 1) from nI_add q 1, ww_Tp_place, Option.bind_some]
        obtain ⟨G3, f', r1, r2, r3, r4, r5⟩ := ih (q + 1) f _ (by omega) (by omega) (by omega) (hq2.tr (o2 _ _ _)) (by rw [f2n _ _ (by decide)]; exact h3) (f2 _ _ _)
        exact ⟨G3, f', by omega, r2, r3, r4, by rw [enS_y (by omega) hb]; exact r5⟩
      · rw [if_neg (show ¬ nI (clS (S.getD q 0)) = (5 : Int32) from ln (n := 5) hb (by omega) (by decide))]
        exact ⟨G2, f, by omega, rfl, hq2, h3, by rw [enS_n (fun _ => hb)]; exact h4⟩
  obtain ⟨G1, f1, a0, a1, a2, a3, a4⟩ := l1 (S.length - bS S j) (bS S j) mm_fu (gsi G 2 4 (nI (bS S j))) rfl hbS (fu_lt (by omega)) (o2 _ _ _) (by rw [f2n _ _ (by decide)]; exact hT.1.1) (f2 _ _ _)
  rw [a1]
  have hfu : 9999 ≤ mm_fu := Nat.le_of_lt (fu_lt (Nat.le_refl _))
  have hqle := enS_le (S := S) (k := 5) hbS
  have hb5 := enS_ge S 5 (bS S j)
  obtain ⟨f1, rfl⟩ : ∃ g, f1 = g + 1 := ⟨f1 - 1, by omega⟩
  have hbn : bS S (j + 1) = (tkS S (bS S j)).2 := rfl
  have htk : tk S j = (tkS S (bS S j)).1 := rfl
  -- the end: the signs are read
  have fin : ∀ (G2 : GG) (e k : Nat), eqOff (fun n => n = 2) G G2 → G2.1 2 3 = nI S.length → G2.1 2 4 = nI (enS S 5 (bS S j)) → G2.1 2 5 = nI e → G2.1 2 6 = nI k → enS S 5 (bS S j) ≤ e → e ≤ S.length → k ≤ 5 → (k = 1 → ∀ i, enS S 5 (bS S j) ≤ i → i < e → clS (S.getD i 0) = 1) → (k = 2 → ∀ i, enS S 5 (bS S j) ≤ i → i < e → clS (S.getD i 0) = 2) → bS S (j + 1) = e → tk S j = (if k = 1 then (if e - enS S 5 (bS S j) ≤ 8 then 1 else 4) else if k = 2 then (if e - enS S 5 (bS S j) ≤ 4 then 2 else 4) else k, enS S 5 (bS S j), (S.drop (enS S 5 (bS S j))).take (e - enS S 5 (bS S j))) → ∃ G', (mm_cv (f_Tp_readSigns [.ref 2] (hp G2)) fun h1 => (some (none, h1) : Option (Option Value × mm_H))) = some (none, hp G') ∧ isCu G' S j ∧ isTp G' S ∧ isKy G' ∧ eqOff (fun n => n = 2) G G' := by
    intro G2 e k hq2 h3 h4 h5' h6 hqe heS hk hw hd hbj htj
    have hT2 : isTp G2 S := ⟨⟨h3, hT.1.2⟩, fun i hi => by rw [(hq2 3 (by decide)).1, (hq2 4 (by decide)).1]; exact hT.2 i hi⟩
    have hK2 : isKy G2 := fun i hi => by rw [(hq2 5 (by decide)).2.1]; exact hK i hi
    obtain ⟨G3, r1, r2, r3, r4, r5, r6⟩ := s_signs hT2 hK2 hqe heS h4 h5' h6 hk hw hd
    rw [r1, cv_some]
    have hq3 := hq2.tr r2
    refine ⟨G3, rfl, ⟨⟨by rw [r3 4 (by omega), h4, htj]; rfl, by rw [r3 5 (by omega), h5', hbj], by rw [r4, htj]; rfl, ?_⟩, fun hs => ?_⟩, ⟨⟨by rw [r3 3 (by omega)]; exact h3, hT.1.2⟩, fun i hi => by rw [(hq3 3 (by decide)).1, (hq3 4 (by decide)).1]; exact hT.2 i hi⟩, fun i hi => by rw [(hq3 5 (by decide)).2.1]; exact hK i hi, hq3⟩
    · rw [r5, htj]
      unfold valI
      show _ = if (if k = 1 then (if e - enS S 5 (bS S j) ≤ 8 then 1 else 4) else if k = 2 then (if e - enS S 5 (bS S j) ≤ 4 then 2 else 4) else k) = 1 then wxI ((S.drop (enS S 5 (bS S j))).take (e - enS S 5 (bS S j))) else if (if k = 1 then (if e - enS S 5 (bS S j) ≤ 8 then 1 else 4) else if k = 2 then (if e - enS S 5 (bS S j) ≤ 4 then 2 else 4) else k) = 2 then nI (num ((S.drop (enS S 5 (bS S j))).take (e - enS S 5 (bS S j)))) else -1
      by_cases k1 : k = 1
      · by_cases h8 : e - enS S 5 (bS S j) ≤ 8
        · rw [if_pos ⟨k1, h8⟩, if_pos k1, if_pos h8, if_pos rfl]
        · rw [if_neg (fun q => h8 q.2), if_neg (fun q => by omega), if_pos k1, if_neg h8, if_neg (by decide), if_neg (by decide)]
      · rw [if_neg (fun q => k1 q.1), if_neg k1]
        by_cases k2 : k = 2
        · by_cases h4' : e - enS S 5 (bS S j) ≤ 4
          · rw [if_pos ⟨k2, h4'⟩, if_pos k2, if_pos h4', if_neg (by decide), if_pos rfl]
          · rw [if_neg (fun q => h4' q.2), if_pos k2, if_neg h4', if_neg (by decide), if_neg (by decide)]
        · rw [if_neg (fun q => k2 q.1), if_neg k2, if_neg k1, if_neg k2]
    · rw [htj] at hs ⊢
      change (if k = 1 then (if e - enS S 5 (bS S j) ≤ 8 then 1 else 4) else if k = 2 then (if e - enS S 5 (bS S j) ≤ 4 then 2 else 4) else k) = 1 at hs
      refine r6 ?_
      by_cases k1 : k = 1
      · rw [if_pos k1] at hs
        refine ⟨k1, ?_⟩
        by_cases h8 : e - enS S 5 (bS S j) ≤ 8
        · exact h8
        · rw [if_neg h8] at hs; omega
      · rw [if_neg k1] at hs
        split at hs
        · split at hs <;> omega
        · exact absurd hs k1
  rw [e_Tp_readOn_55, gg_Tp_place, Option.bind_some, a4, ww_Tp_behind, Option.bind_some, ww_Tp_sort, Option.bind_some, gg_Tp_place, Option.bind_some, f2n _ _ (by decide), f2n _ _ (by decide), a4, gg_Tp_length, Option.bind_some, f2n _ _ (by decide), f2n _ _ (by decide), a3]
  have hqa : eqOff (fun n => n = 2) G (gsi (gsi G1 2 5 (nI (enS S 5 (bS S j)))) 2 6 0) := (a2.tr (o2 _ _ _)).tr (o2 _ _ _)
  have h3a : (gsi (gsi G1 2 5 (nI (enS S 5 (bS S j)))) 2 6 0).1 2 3 = nI S.length := by rw [f2n _ _ (by decide), f2n _ _ (by decide)]; exact a3
  have h4a : (gsi (gsi G1 2 5 (nI (enS S 5 (bS S j)))) 2 6 0).1 2 4 = nI (enS S 5 (bS S j)) := by rw [f2n _ _ (by decide), f2n _ _ (by decide)]; exact a4
  have h5a : (gsi (gsi G1 2 5 (nI (enS S 5 (bS S j)))) 2 6 0).1 2 5 = nI (enS S 5 (bS S j)) := by rw [f2n _ _ (by decide), f2]
  have h6a : (gsi (gsi G1 2 5 (nI (enS S 5 (bS S j)))) 2 6 0).1 2 6 = 0 := f2 _ _ _
  generalize gsi (gsi G1 2 5 (nI (enS S 5 (bS S j)))) 2 6 0 = G2 at hqa h3a h4a h5a h6a ⊢
  by_cases hlt : enS S 5 (bS S j) < S.length
  · have hcl := clS_le (S.getD (enS S 5 (bS S j)) 0)
    have hne5 := enS_out hbS hlt
    rw [if_pos (lp hlt (by omega)), Option.bind_some, if_pos (show nI (enS S 5 (bS S j)) < (1000 : Int32) from lp (n := 1000) (by omega) (by decide)), gg_Tp_sortOf, Option.bind_some, Option.bind_some, rr_Tp_sortOf _ (by omega), Option.bind_some, hso hqa _ hlt, ww_Tp_sort, Option.bind_some, gg_Tp_behind, Option.bind_some, f2n _ _ (by decide), h5a, show nI (enS S 5 (bS S j)) + 1 = nI (enS S 5 (bS S j) + 1) from nI_add _ 1, ww_Tp_behind, Option.bind_some, gg_Tp_sort, Option.bind_some, f2n _ _ (by decide), f2]
    have hE : (tkS S (bS S j)).2 = endT S (enS S 5 (bS S j)) := by unfold tkS; rw [if_pos hlt]
    have hK1 : (tkS S (bS S j)).1 = (sortT S (enS S 5 (bS S j)), enS S 5 (bS S j), (S.drop (enS S 5 (bS S j))).take (endT S (enS S 5 (bS S j)) - enS S 5 (bS S j))) := by unfold tkS; rw [if_pos hlt]
    have hqb : eqOff (fun n => n = 2) G (gsi (gsi G2 2 6 (nI (clS (S.getD (enS S 5 (bS S j)) 0)))) 2 5 (nI (enS S 5 (bS S j) + 1))) := (hqa.tr (o2 _ _ _)).tr (o2 _ _ _)
    have h3b : (gsi (gsi G2 2 6 (nI (clS (S.getD (enS S 5 (bS S j)) 0)))) 2 5 (nI (enS S 5 (bS S j) + 1))).1 2 3 = nI S.length := by rw [f2n _ _ (by decide), f2n _ _ (by decide)]; exact h3a
    have h4b : (gsi (gsi G2 2 6 (nI (clS (S.getD (enS S 5 (bS S j)) 0)))) 2 5 (nI (enS S 5 (bS S j) + 1))).1 2 4 = nI (enS S 5 (bS S j)) := by rw [f2n _ _ (by decide), f2n _ _ (by decide)]; exact h4a
    have h5b : (gsi (gsi G2 2 6 (nI (clS (S.getD (enS S 5 (bS S j)) 0)))) 2 5 (nI (enS S 5 (bS S j) + 1))).1 2 5 = nI (enS S 5 (bS S j) + 1) := f2 _ _ _
    have h6b : (gsi (gsi G2 2 6 (nI (clS (S.getD (enS S 5 (bS S j)) 0)))) 2 5 (nI (enS S 5 (bS S j) + 1))).1 2 6 = nI (clS (S.getD (enS S 5 (bS S j)) 0)) := by rw [f2n _ _ (by decide), f2]
    generalize gsi (gsi G2 2 6 (nI (clS (S.getD (enS S 5 (bS S j)) 0)))) 2 5 (nI (enS S 5 (bS S j) + 1)) = G3 at hqb h3b h4b h5b h6b ⊢
    obtain ⟨f1, rfl⟩ : ∃ g, f1 = g + 1 := ⟨f1 - 1, by omega⟩
    generalize hq0 : enS S 5 (bS S j) = q at *
    generalize hk0 : clS (S.getD q 0) = k at *
    by_cases hlong : k = 1 ∨ k = 2
    · have heT : endT S q = enS S k (q + 1) := by unfold endT; rw [hk0, if_pos hlong]
      have l2 : ∀ (m e f : Nat) (G4 : GG), S.length - e = m → q + 1 ≤ e → e ≤ S.length → m < f → eqOff (fun n => n = 2) G G4 → G4.1 2 3 = nI S.length → G4.1 2 4 = nI q → G4.1 2 5 = nI e → G4.1 2 6 = nI k → enS S k e = enS S k (q + 1) → ∃ G', mm_run p_Tp_readOn f 134 [.ref 2, .int 1] [] (hp G4) = some (none, hp G') ∧ isCu G' S j ∧ isTp G' S ∧ isKy G' ∧ eqOff (fun n => n = 2) G G' := by
        intro m
        induction m with
        | zero =>
          intro e f G4 hm hqe he hf hq4 h3 h4 h5' h6 hen
          obtain ⟨f, rfl⟩ : ∃ g, f = g + 1 := ⟨f - 1, by omega⟩
          have hee : enS S k e = e := enS_n (fun q' => by omega)
          rw [e_Tp_readOn_134, if_neg (by decide), gg_Tp_behind, Option.bind_some, gg_Tp_length, Option.bind_some, h3, h5', if_neg (lm (by omega) (by omega))]
          have hE2 : endT S q = e := by rw [heT, ← hen, hee]
          refine fin G4 e k hq4 h3 h4 h5' h6 (by omega) he hcl (fun k1 i h1 h2 => ?_) (fun k2 i h1 h2 => ?_) (by rw [hbn, hE, hE2]) (by rw [htk, hK1, hE2]; unfold sortT; rw [hk0, hE2])
          · by_cases ei : i = q
            · rw [ei, hk0, k1]
            · have := enS_at (S := S) (k := k) (e := q + 1) (i := i) (by omega) (by rw [← hen, hee]; exact h2)
              rw [this, k1]
          · by_cases ei : i = q
            · rw [ei, hk0, k2]
            · have := enS_at (S := S) (k := k) (e := q + 1) (i := i) (by omega) (by rw [← hen, hee]; exact h2)
              rw [this, k2]
        | succ m ih =>
          intro e f G4 hm hqe he hf hq4 h3 h4 h5' h6 hen
          obtain ⟨f, rfl⟩ : ∃ g, f = g + 1 := ⟨f - 1, by omega⟩
          have hcle := clS_le (S.getD e 0)
          rw [e_Tp_readOn_134, if_neg (by decide), gg_Tp_behind, Option.bind_some, gg_Tp_length, Option.bind_some, h3, h5', if_pos (lp (by omega) (by omega)), Option.bind_some, if_pos (show nI e < (1000 : Int32) from lp (n := 1000) (by omega) (by decide)), gg_Tp_sortOf, Option.bind_some, Option.bind_some, rr_Tp_sortOf _ (by omega), Option.bind_some, hso hq4 e (by omega), gg_Tp_sort, Option.bind_some, h6]
          by_cases hc : clS (S.getD e 0) = k
          · rw [if_pos (by rw [hc]), Option.bind_some, show nI e + 1 = nI (e + 1) from nI_add e 1, ww_Tp_behind, Option.bind_some]
            exact ih (e + 1) f _ (by omega) (by omega) (by omega) (by omega) (hq4.tr (o2 _ _ _)) (by rw [f2n _ _ (by decide)]; exact h3) (by rw [f2n _ _ (by decide)]; exact h4) (f2 _ _ _) (by rw [f2n _ _ (by decide)]; exact h6) (by rw [← enS_y (by omega) hc]; exact hen)
          · have hee : enS S k e = e := enS_n (fun _ => hc)
            rw [if_neg (ln hc (by omega) (by omega))]
            have hE2 : endT S q = e := by rw [heT, ← hen, hee]
            refine fin G4 e k hq4 h3 h4 h5' h6 (by omega) he hcl (fun k1 i h1 h2 => ?_) (fun k2 i h1 h2 => ?_) (by rw [hbn, hE, hE2]) (by rw [htk, hK1, hE2]; unfold sortT; rw [hk0, hE2])
            · by_cases ei : i = q
              · rw [ei, hk0, k1]
              · have := enS_at (S := S) (k := k) (e := q + 1) (i := i) (by omega) (by rw [← hen, hee]; exact h2)
                rw [this, k1]
            · by_cases ei : i = q
              · rw [ei, hk0, k2]
              · have := enS_at (S := S) (k := k) (e := q + 1) (i := i) (by omega) (by rw [← hen, hee]; exact h2)
                rw [this, k2]
      have go := l2 (S.length - (q + 1)) (q + 1) (f1 + 1) G3 rfl (Nat.le_refl _) (by omega) (by omega) hqb h3b h4b h5b h6b rfl
      by_cases k1 : k = 1
      · rw [if_pos (show nI k = (1 : Int32) from lq (n := 1) k1)]; exact go
      · rw [if_neg (show ¬ nI k = (1 : Int32) from ln (n := 1) k1 (by omega) (by decide)), Option.bind_some, if_pos (show nI k = (2 : Int32) from lq (n := 2) (by omega))]; exact go
    · have k1 : ¬ k = 1 := fun q => hlong (Or.inl q)
      have k2 : ¬ k = 2 := fun q => hlong (Or.inr q)
      have hE2 : endT S q = q + 1 := by unfold endT; rw [hk0, if_neg hlong]
      rw [if_neg (show ¬ nI k = (1 : Int32) from ln (n := 1) k1 (by omega) (by decide)), Option.bind_some, if_neg (show ¬ nI k = (2 : Int32) from ln (n := 2) k2 (by omega) (by decide)), e_Tp_readOn_134, if_pos rfl]
      exact fin G3 (q + 1) k hqb h3b h4b h5b h6b (by omega) (by omega) hcl (fun q' => absurd q' k1) (fun q' => absurd q' k2) (by rw [hbn, hE, hE2]) (by rw [htk, hK1, hE2]; unfold sortT; rw [hk0, hE2])
  · rw [if_neg (lm (by omega) (by omega)), gg_Tp_sort, Option.bind_some, h6a, if_neg (by decide), Option.bind_some, if_neg (by decide)]
    obtain ⟨f1, rfl⟩ : ∃ g, f1 = g + 1 := ⟨f1 - 1, by omega⟩
    rw [e_Tp_readOn_134, if_pos rfl]
    refine fin G2 (enS S 5 (bS S j)) 0 hqa h3a h4a h5a h6a (Nat.le_refl _) hqle (by decide) (fun q' => by omega) (fun q' => by omega) (by rw [hbn]; unfold tkS; rw [if_neg hlt]) ?_
    rw [htk]
    unfold tkS
    rw [if_neg hlt, Nat.sub_self, List.take_zero]
    rfl
end TPS
