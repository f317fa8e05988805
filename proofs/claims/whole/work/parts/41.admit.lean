/-! STATE (the class): POINT, INSERT -/
def isVal (x : Int32) : Bool := !decide (x < 0) && !decide (999 < x)
theorem isVal_iff (x : Int32) : isVal x = true ↔ ∃ v, v ≤ 999 ∧ x = nI v := by
  unfold isVal
  rcases n_cases x with h | ⟨n, hn, rfl⟩
  · rw [decide_eq_true h]
    simp only [Bool.not_true, Bool.false_and]
    refine ⟨fun q => absurd q (by decide), fun ⟨v, hv, e⟩ => ?_⟩
    rw [e] at h
    exact absurd h (n_nneg (by omega))
  · rw [decide_eq_false (n_nneg hn)]
    by_cases h : 999 < n
    · rw [decide_eq_true (show (999 : Int32) < nI n from lp (a := 999) h hn)]
      refine ⟨fun q => absurd q (by decide), fun ⟨v, hv, e⟩ => ?_⟩
      have := n_inj hn (by omega) e
      omega
    · rw [decide_eq_false (show ¬ (999 : Int32) < nI n from fun q => h (by rw [show (999 : Int32) = nI 999 from rfl, n_lt (by omega) hn] at q; exact q))]
      exact ⟨fun _ => ⟨n, by omega, rfl⟩, fun _ => rfl⟩
theorem s_Ls_isValue (x : Int32) (h : mm_H) : f_Ls_isValue [.int x] h = some (some (.int (b2 (isVal x))), h) := by
  rw [e_Ls_isValue]
  unfold isVal
  by_cases h1 : x < 0
  · rw [if_pos h1, decide_eq_true h1]; rfl
  · rw [if_neg h1, decide_eq_false h1]
    by_cases h2 : 999 < x
    · rw [if_pos h2, decide_eq_true h2]; rfl
    · rw [if_neg h2, decide_eq_false h2]; rfl
theorem s_Ls_areValues (x y z : Int32) (h : mm_H) : f_Ls_areValues [.int x, .int y, .int z] h = some (some (.int (b2 (isVal x && (isVal y && isVal z)))), h) := by
  rw [e_Ls_areValues, s_Ls_isValue, ci_some]
  cases isVal x
  · rw [if_pos (by decide)]; rfl
  · rw [if_neg (by decide), s_Ls_isValue, ci_some]
    cases isVal y
    · rw [if_pos (by decide)]; rfl
    · rw [if_neg (by decide), s_Ls_isValue, ci_some]
      cases isVal z
      · rw [if_pos (by decide)]; rfl
      · rw [if_neg (by decide)]; rfl
section ADM
variable {G : GG} {s p : Nat} {P : PP} {A : AS}
/-- whether a pointer can be pointed -/
def canAim (A : AS) (x y : Int32) : Bool := (!decide (x < 0) && !decide (2 < x)) && (isVal y && (!decide (havS (aV A) (visA A) 0 y.toNatClampNeg = 0) && decide (aN A < 12)))
def aimA (A : AS) (x y : Int32) : AS := setT A (aN A + 1) (fun p => if p = aN A then x.toNatClampNeg else aS A p) (setP (aT A) (aN A) y) (setP (aB A) (aN A) (-1))
theorem s_St_aim_no (H : SS G s p P A) {x y : Int32} (h : canAim A x y = false) : f_St_aim [.ref s, .int x, .int y] (hp G) = some (some (.int (-1)), hp G) := by
  rw [e_St_aim s _ _ _ (ob_St G H.os)]
  unfold canAim at h
  by_cases h1 : x < 0
  · rw [if_pos h1]
  · rw [if_neg h1]
    by_cases h2 : 2 < x
    · rw [if_pos h2]
    · rw [if_neg h2, s_Ls_isValue, ci_some]
      rw [decide_eq_false h1, decide_eq_false h2] at h
      cases h3 : isVal y
      · rw [if_pos (by decide)]
      · rw [if_neg (by decide)]
        obtain ⟨v, hv, rfl⟩ := (isVal_iff y).mp h3
        rw [gg_St_rows _ H.os, Option.bind_some, show f_Rw_having [.ref (s + 1), .int 0, .int (nI v)] (hp G) = _ from s_Rw_having (k := 0) H.1.1.rw H.rw H.kr (by decide) (by omega), ci_some]
        by_cases h4 : havS (aV A) (visB (aD A) (aC A)) 0 v = 0
        · rw [if_pos h4]
        · rw [if_neg h4, gg_St_points _ H.os, Option.bind_some]
          rw [h3, nI_tn (by omega)] at h
          unfold visA at h
          rw [decide_eq_false h4] at h
          have h12 : aN A = 12 := by
            have := H.kp.1
            simp at h
            omega
          rw [s_Pt_add_full H.1.1.pt (by rw [H.pt.1, h12]), ci_some]
theorem s_St_aim (H : SS G s p P A) {x y : Int32} (h : canAim A x y = true) : ∃ G', f_St_aim [.ref s, .int x, .int y] (hp G) = some (some (.int (nI (aN A))), hp G') ∧ SS G' s p P (aimA A x y) ∧ eqOff (stR s) G G' := by
  unfold canAim at h
  simp only [Bool.and_eq_true, Bool.not_eq_true', decide_eq_false_iff_not, decide_eq_true_eq] at h
  obtain ⟨⟨h1, h2⟩, h3, h4, h5⟩ := h
  obtain ⟨v, hv, rfl⟩ := (isVal_iff y).mp h3
  rw [nI_tn (by omega)] at h4
  have hx : ∃ n, n ≤ 2 ∧ x = nI n := by
    rcases n_cases x with q | ⟨n, hn, rfl⟩
    · exact absurd q h1
    · refine ⟨n, ?_, rfl⟩
      by_cases q : 2 < n
      · exact absurd (show (2 : Int32) < nI n from lp (a := 2) q hn) h2
      · omega
  obtain ⟨n, hn2, rfl⟩ := hx
  rw [e_St_aim s _ _ _ (ob_St G H.os), if_neg h1, if_neg h2, s_Ls_isValue, ci_some, h3, if_neg (by decide), gg_St_rows _ H.os, Option.bind_some, show f_Rw_having [.ref (s + 1), .int 0, .int (nI v)] (hp G) = _ from s_Rw_having (k := 0) H.1.1.rw H.rw H.kr (by decide) (by omega), ci_some, if_neg (show ¬ havS (aV A) (visB (aD A) (aC A)) 0 v = 0 from h4), gg_St_points _ H.os, Option.bind_some]
  obtain ⟨G', q1, q2, q3⟩ := s_Pt_add (s := n) (v := v) H.1.1.pt H.pt h5
  rw [q1, ci_some]
  refine ⟨G', rfl, ?_, q3.mono (fun k hk => by unfold inR at hk; unfold stR; omega)⟩
  unfold aimA
  rw [nI_tn (by omega)]
  refine H.points q3 q2 ⟨by omega, fun p hp2 => ?_⟩
  show (if p = aN A then n else aS A p) ≤ 2 ∧ _
  unfold setP
  by_cases e : p = aN A
  · rw [if_pos e, if_pos e]
    exact ⟨hn2, Or.inr (Or.inr ⟨v, hv, rfl⟩)⟩
  · rw [if_neg e, if_neg e]
    exact H.kp.2 p (by omega)
/-- each entry of an INDEX that the JOB is not at is one of a ROW that is there and belongs -/
def entI (P : PP) (A : AS) : Prop := ∀ i, i < pNi P → isAtA A i = false → ∀ c ∈ (aL A i).flatten, bt (aD A) (c % 32) = true ∧ c = codA P A i (c % 32) ∧ belA P A i (c % 32) = true
def addR (A : AS) (x y z : Nat) : AS := setR A (newV (aV A) (aM A) x y z) (aM A + 1) (aD A ||| sbit (aM A)) (aC A)
def noE : Nat → Int32 := fun _ => -1
def clash3 (P : PP) (A : AS) (x y z : Nat) : Int32 := (clashA P A 0 x ||| clashA P A 1 y) ||| clashA P A 2 z
def canAdm (P : PP) (A : AS) (x y z : Nat) : Bool := decide (aM A < 30) && (decide (clash3 P A x y z = 0) && fitA P (addR A x y z) noE (entsA P (addR A x y z) (aM A) (partA P (addR A x y z) (aM A))))
def admA (P : PP) (A : AS) (x y z : Nat) : AS := moveA P (addR A x y z) noE (entsA P (addR A x y z) (aM A) (partA P (addR A x y z) (aM A))) (aM A)
theorem entsA_en (H : SS G s p P A) {r : Nat} (hr : r < aM A) (b : Bool) {i : Nat} (hi : i < pNi P) : isEn (entsA P A r b i) := by
  unfold entsA
  split
  · exact Or.inr ⟨_, H.va hi hr, rfl⟩
  · exact Or.inl rfl
theorem s_St_admit_bad (H : SS G s p P A) {x y z : Int32} (h : (isVal x && (isVal y && isVal z)) = false) : f_St_admit [.ref s, .int x, .int y, .int z] (hp G) = some (some (.int (-1)), hp G) := by
  rw [e_St_admit s _ _ _ _ (ob_St G H.os), s_Ls_areValues, ci_some, h, if_pos (by decide)]
theorem s_St_admit (H : SS G s p P A) (hen : entI P A) {x y z : Nat} (hx : x ≤ 999) (hy : y ≤ 999) (hz : z ≤ 999) : ∃ G', f_St_admit [.ref s, .int (nI x), .int (nI y), .int (nI z)] (hp G) = some (some (.int (if canAdm P A x y z then nI (aM A) else -1)), hp G') ∧ SS G' s p P (if canAdm P A x y z then admA P A x y z else A) ∧ eqOff (inR s (s + 28)) G G' := by
  have hm := H.kr.1
  have hv : (isVal (nI x) && (isVal (nI y) && isVal (nI z))) = true := by rw [(isVal_iff _).mpr ⟨x, hx, rfl⟩, (isVal_iff _).mpr ⟨y, hy, rfl⟩, (isVal_iff _).mpr ⟨z, hz, rfl⟩]; rfl
  rw [e_St_admit s _ _ _ _ (ob_St G H.os), s_Ls_areValues, ci_some, hv, if_neg (by decide), gg_St_rows _ H.os, Option.bind_some, H.gm, Option.bind_some]
  unfold canAdm
  by_cases h30 : aM A < 30
  · rw [if_pos (show nI (aM A) < (30 : Int32) from lp (n := 30) h30 (by omega)), decide_eq_true h30, Bool.true_and]
    rw [show f_St_onceClashes [.ref s, .int 0, .int (nI x)] (hp G) = _ from s_St_onceClashes (k := 0) H (by decide) (by omega), ci_some, show f_St_onceClashes [.ref s, .int 1, .int (nI y)] (hp G) = _ from s_St_onceClashes (k := 1) H (by decide) (by omega), ci_some, show f_St_onceClashes [.ref s, .int 2, .int (nI z)] (hp G) = _ from s_St_onceClashes (k := 2) H (by decide) (by omega), ci_some]
    by_cases hc : clash3 P A x y z = 0
    · rw [if_pos (show (clashA P A 0 x ||| clashA P A 1 y) ||| clashA P A 2 z = 0 from hc), decide_eq_true hc, Bool.true_and, gg_St_rows _ H.os, Option.bind_some]
      obtain ⟨G1, a1, a2, a3⟩ := s_Rw_add H.1.1.rw H.rw H.kr h30 hx hy hz
      have H1 : SS G1 s p P (addR A x y z) := H.rows a3 a2 (H.kr.add h30 hx hy hz)
      rw [a1, ci_some, gg_St_was _ H.os, Option.bind_some]
      obtain ⟨G2, b1, b2', b3⟩ := s_St_noEntries (G := G1) (s := s) H.os H.os.2.1
      have H2 : SS G2 s p P (addR A x y z) := H1.was (b3.mono (fun n h => by unfold inR at h ⊢; omega))
      have hr1 : aM A < aM (addR A x y z) := Nat.lt_succ_self _
      rw [b1, cv_some, H2.gp, Option.bind_some, gg_Pl_part _ H.op, Option.bind_some, H2.pa hr1, ci_some, gg_St_willBe _ H.os, Option.bind_some]
      obtain ⟨G3, c1, c2, c3, c4⟩ := s_St_entriesOf H2 (Or.inr rfl) hr1 (partA P (addR A x y z) (aM A))
      rw [c1, cv_some]
      have hE3 : isE G3 (s + 14) noE := fun k hk => by rw [(c4 (s + 14) (fun h => by unfold inR at h; omega)).1]; exact b2' k hk
      rw [s_St_fitAside c2 hE3 c3, ci_some]
      have q13 : eqOff (inR s (s + 28)) G G3 := ((a3.mono (fun n h => by unfold inR at h ⊢; omega)).tr (b3.mono (fun n h => by unfold inR at h ⊢; omega))).tr (c4.mono (fun n h => by unfold inR at h ⊢; omega))
      cases hf : fitA P (addR A x y z) noE (entsA P (addR A x y z) (aM A) (partA P (addR A x y z) (aM A)))
      · rw [if_pos (by decide), gg_St_rows _ H.os, Option.bind_some]
        obtain ⟨G4, d1, d2, d3⟩ := s_Rw_takeBackLast (m := aM A) H.1.1.rw c2.rw h30
        rw [d1, cv_some]
        have hV : isRw G4 (s + 1) (aV A) (aM A) (aD A) (aC A) := by
          obtain ⟨⟨e1, e2, e3⟩, e4⟩ := d2
          refine ⟨⟨e1, ?_, e3⟩, fun r k hr hk => ?_⟩
          · rw [e2]
            show (aD A ||| sbit (aM A)) &&& (sbit (aM A) ^^^ (-1)) = aD A
            apply b_ext
            intro i hi32
            rw [b_and, b_or, bt_not _ hi32, bt_sbit (by omega) hi32]
            by_cases e : i = aM A
            · have : bt (aD A) i = false := by
                cases q : bt (aD A) i
                · rfl
                · have := H.kr.2.2.1 i q; omega
              simp [e] at this ⊢
              exact this
            · simp [e]
          · rw [e4 r k hr hk]
            show nI (newV (aV A) (aM A) x y z r k) = _
            unfold newV
            rw [if_neg (by omega)]
        have H4 : SS G4 s p P (setR (addR A x y z) (aV A) (aM A) (aD A) (aC A)) := c2.rows d3 hV H.kr
        refine ⟨G4, rfl, ?_, q13.tr (d3.mono (fun n h => by unfold inR at h ⊢; omega))⟩
        exact H4
      · rw [if_neg (by decide)]
        obtain ⟨G4, d1, d2, d3⟩ := s_St_moveEntries c2 hE3 c3 (r := aM A) h30 (fun i hi => ⟨Or.inl rfl, entsA_en H2 hr1 _ hi⟩) hf (fun i hi hat _ _ c hc hcr => by
          have := (hen i hi hat c hc).1
          rw [hcr] at this
          have := H.kr.2.2.1 _ this
          omega)
        rw [d1, cv_some]
        exact ⟨G4, rfl, d2, q13.tr (d3.mono (fun n h => by unfold inR; unfold stR at h; omega))⟩
    · rw [if_neg (show ¬ (clashA P A 0 x ||| clashA P A 1 y) ||| clashA P A 2 z = 0 from hc), decide_eq_false hc, Bool.false_and]
      exact ⟨G, rfl, H, eqOff.rf⟩
  · rw [if_neg (show ¬ nI (aM A) < (30 : Int32) from lm (n := 30) (by omega) (by omega)), decide_eq_false h30, Bool.false_and]
    exact ⟨G, rfl, H, eqOff.rf⟩
end ADM
