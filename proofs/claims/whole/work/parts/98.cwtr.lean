/-! LEAFSWEEP (the class): what would be -/
/-- the work judged: the first line that cannot, what is left -/
def jdgR (P : PP) : List LI → Nat → Int32 → AS → Int32 × AS
  | [], _, a, B => (a, B)
  | t :: l, i, a, B => jdgR P l (i + 1) (if (playO P B t).1 then a else if a = -1 then nI i else a) (playO P B t).2
def jdgW (P : PP) (T : TT) (K : List LI) (w : Int32) : Int32 := if w < 0 ∨ 2 < w then -2 else if w = 0 then (jdgR P K 0 (-1) (startA P T)).1 else if w = 1 then nI (bc (visA (jdgR P K 0 (-1) (startA P T)).2)) else aX (jdgR P K 0 (-1) (startA P T)).2
def atV (B : AS) : Int32 := match aJ B with
  | none => -1
  | some J => nI (jAt J)
def whnR (P : PP) (i r : Nat) : Nat → Nat → AS → Int32
  | 0, _, _ => -1
  | f + 1, n, B => if (stA P B).1 = nI r ∧ atV B = nI i then nI n else whnR P i r f (n + 1) (stA P B).2
def whnW (P : PP) (A : AS) (x y : Int32) : Int32 := if (aJ A).isSome && (isIx P x && ((!decide (y < 0) && decide (y.toNatClampNeg < aM A)) && bt (leftA P A x.toNatClampNeg) y.toNatClampNeg)) then whnR P x.toNatClampNeg y.toNatClampNeg 200 1 (riseO P A).2 else -1
def aftV (P : PP) (B : AS) (w : Int32) : Int32 := if w = 0 then atV B else if w = 1 then aX B else if w = 2 then nI ((List.range (pNi P)).foldl (fun a i => a + (aL B i).length) 0) else match aJ B with
  | none => 0
  | some J => nI (jRe J).length
def aftW (P : PP) (A : AS) (x w : Int32) : Int32 := if (x < 0 ∨ 150 < x) ∨ (w < 0 ∨ 3 < w) then -2 else aftV P (goS P x.toNatClampNeg (riseO P A).2).2 w
def durW (P : PP) (A : AS) (x a b c w : Int32) : Int32 := if (x < 0 ∨ 150 < x) ∨ (w < 0 ∨ 2 < w) ∨ (isVal a && (isVal b && isVal c)) = false then -2 else if w = 0 then (admO P (goS P x.toNatClampNeg (riseO P A).2).2 a.toNatClampNeg b.toNatClampNeg c.toNatClampNeg).1 else aftV P (goS P 200 (admO P (goS P x.toNatClampNeg (riseO P A).2).2 a.toNatClampNeg b.toNatClampNeg c.toNatClampNeg).2).2 w
def craR (P : PP) (n : Nat) : Nat → Nat → AS → Int32
  | 0, _, _ => -1
  | f + 1, k, B => if (aJ (stA P B).2).isNone then nI k else craR P n f (k + 1) (if k % n = 0 then (riseO P (fallO P (stA P B).2).2).2 else (stA P B).2)
def craW (P : PP) (A : AS) (x y : Int32) : Int32 := if (aJ A).isNone = true ∨ (x < 1 ∨ 50 < x) ∨ (y < 1 ∨ 8 < y) then -1 else craR (setB P y.toNatClampNeg) x.toNatClampNeg 200 1 (riseO P A).2
section CWT
variable {Z G G' : GG} {p : Nat} {P Q : PP} {T : TT} {A A' B B' : AS} {U : List AS} {cu : CU} {K : List LI} {l : Nat}
theorem adLn.no (h : adLn l) {n : Nat} (h1 : l ≤ n) (h2 : n ≤ l + 2) : ¬ wR n := by
  unfold wR
  rcases h with e | e | e <;> subst e <;> omega
theorem isLn.fix (h : isLn Z l K) (hl : adLn l) (hf : fixR Z G) : isLn G l K := by
  obtain ⟨h1, h2⟩ := h
  refine ⟨by rw [(hf.1 l (hl.no (by omega) (by omega))).1]; exact h1, fun i hi => ?_⟩
  have := h2 i hi
  unfold isLi at this ⊢
  rw [(hf.1 (l + 1) (hl.no (by omega) (by omega))).1, (hf.1 (l + 2) (hl.no (by omega) (by omega))).1]
  exact this
theorem CW.fix (W : CW Z G p P T A U cu) : fixR Z G := W.2.2.2.2.2.2
/-- JUDGED -/
theorem k_judged (W : CW Z G p P T A U cu) (hl : adLn l) (hZ : Z.2.2 1 11 = l) (hL : isLn Z l K) (hK : okWk P K) (w : Int32) : ∃ G', f_Ls_judged [.ref 1, .int w] (hp G) = some (some (.int (jdgW P T K w)), hp G') ∧ CW Z G' p P T A U cu := by
  obtain ⟨⟨⟨a1, a2, a3⟩, a4, a5⟩, ⟨b1, b2, b3, b4⟩, -, -, wf, -⟩ := id W
  rw [e_Ls_judged 1 _ _ (ob_Ls G)]
  unfold jdgW
  by_cases h0 : w < 0
  · rw [if_pos h0, if_pos (Or.inl h0)]
    exact ⟨G, rfl, W⟩
  by_cases h2 : (2 : Int32) < w
  · rw [if_neg h0, if_pos h2, if_pos (Or.inr h2)]
    exact ⟨G, rfl, W⟩
  obtain ⟨G1, r1, r2, r3⟩ := s_St_startFrom ad142 W.ss.1.2 W.ss.2.1.1 W.ss.2.1.2 b2 b3 b4 (wf 142 ad142)
  rw [if_neg h0, if_neg h2, if_neg (fun q => q.elim h0 h2), gg_Ls_trial, Option.bind_some, W.gpl, Option.bind_some, r1, cv_some]
  have W1 : TW Z G1 p P T A U cu P (startA P T) := ⟨W.trial r3 r2.wf, r2, start_inv W.ss.2.1.2 b4 0⟩
  have key : ∀ (L : List LI) (i f : Nat) (a : Int32) (G : GG) (B : AS), TW Z G p P T A U cu P B → i + L.length = K.length → K.drop i = L → L.length < f → ∃ G', mm_run p_Ls_judged f 27 [.ref 1, .int w, .int a, .int (nI i)] [] (hp G) = some (some (.int (if w = 0 then (jdgR P L i a B).1 else if w = 1 then nI (bc (visA (jdgR P L i a B).2)) else aX (jdgR P L i a B).2)), hp G') ∧ CW Z G' p P T A U cu := by
    intro L
    induction L with
    | nil =>
      intro i f a G B W hi hd hf
      obtain ⟨f, rfl⟩ : ∃ g, f = g + 1 := ⟨f - 1, by omega⟩
      have hK40 := hK.1
      simp only [List.length_nil] at hi
      have hLG := hL.fix hl W.1.fix
      have hlG : G.2.2 1 11 = l := by rw [W.1.fix.2 11 (by decide) (by decide)]; exact hZ
      refine ⟨G, ?_, W.1⟩
      rw [e_Ls_judged_27, gg_Ls_lines, hlG, Option.bind_some, gg_Ln_told _ hl.ok, Option.bind_some, hLG.1, if_neg (lm (by omega) (by omega))]
      by_cases e0 : w = 0
      · rw [if_pos e0, if_pos e0]; rfl
      rw [if_neg e0, if_neg e0]
      by_cases e1 : w = 1
      · rw [if_pos e1, if_pos e1, gg_Ls_trial, Option.bind_some, gg_St_rows _ W.2.1.os, Option.bind_some, s_Rw_visible W.2.1.1.1.rw W.2.1.rw, ci_some, s_Ji_bitCount, ci_some]; rfl
      rw [if_neg e1, if_neg e1, gg_Ls_trial, Option.bind_some, gg_St_spent _ W.2.1.os, Option.bind_some, W.2.1.sp]
      rfl
    | cons t L ih =>
      intro i f a G B W hi hd hf
      obtain ⟨f, rfl⟩ : ∃ g, f = g + 1 := ⟨f - 1, by omega⟩
      have hK40 := hK.1
      simp only [List.length_cons] at hi hf
      have hiK : i < K.length := by omega
      have hLG := hL.fix hl W.1.fix
      have hlG : G.2.2 1 11 = l := by rw [W.1.fix.2 11 (by decide) (by decide)]; exact hZ
      have hKi : K[i] = t ∧ K.drop (i + 1) = L := by
        rw [List.drop_eq_getElem_cons hiK] at hd
        exact ⟨(List.cons.inj hd).1, (List.cons.inj hd).2⟩
      have hli := hLG.2 i hiK
      rw [hKi.1] at hli
      obtain ⟨G2, s1, s2, s3⟩ := s_Ln_play hl.ok W.2.1 W.2.2 (show i < 40 by omega) hli (hK.2 t (by rw [← hKi.1]; exact List.getElem_mem hiK))
      have W2 : TW Z G2 p P T A U cu P (playO P B t).2 := W.go s3 s2 (playO_inv W.2.2 (hK.2 t (by rw [← hKi.1]; exact List.getElem_mem hiK)))
      rw [e_Ls_judged_27, gg_Ls_lines, hlG, Option.bind_some, gg_Ln_told _ hl.ok, Option.bind_some, hLG.1, if_pos (lp hiK (by omega)), Option.bind_some, gg_Ls_trial, Option.bind_some, s1, ci_some, show nI i + 1 = nI (i + 1) from nI_add i 1]
      have hfin := fun a => ih (i + 1) f a G2 _ W2 (by omega) hKi.2 (by omega)
      unfold jdgR
      cases (playO P B t).1
      · rw [if_pos (by decide), if_neg (show ¬ false = true by decide)]
        by_cases ea : a = -1
        · rw [if_pos ea, if_pos ea]; exact hfin _
        · rw [if_neg ea, if_neg ea]; exact hfin _
      · rw [if_neg (by decide), if_pos (show true = true from rfl)]
        exact hfin _
  exact key K 0 mm_fu (-1) G1 _ W1 (by omega) rfl (fu_lt (by have := hK.1; omega))
theorem SS.gat (H : SS G 142 p Q B) : mm_gi 1 5 (hp G) (142 + 8) = some (atV B) := by
  have hj := H.jb
  rw [gg_Jb_at _ H.1.1.jb]
  unfold atV
  cases h : aJ B with
  | none => rw [h] at hj; rw [hj.2.2.1]
  | some J => rw [h] at hj; rw [hj.1.2.2.1]
theorem SS.onV {s : Nat} (H : SS G s p Q B) : mm_gi 1 3 (hp G) (s + 8) = some (if (aJ B).isNone then 0 else 1) := by
  have hj := H.jb
  rw [gg_Jb_on _ H.1.1.jb]
  cases h : aJ B with
  | none => rw [h] at hj; rw [hj.1]; rfl
  | some J => rw [h] at hj; rw [hj.1.1]; rfl
/-- AFTER, DURING -/
theorem k_aftV (H : SS G 142 p P B) (w : Int32) : (if w = 0 then (mm_gr 11 15 (hp G) 1).bind fun r7 => (mm_gr 8 3 (hp G) r7).bind fun r8 => (mm_gi 1 3 (hp G) r8).bind fun x9 => if x9 = 0 then some (some (.int (-1)), hp G) else (mm_gr 11 15 (hp G) 1).bind fun r10 => (mm_gr 8 3 (hp G) r10).bind fun r11 => (mm_gi 1 5 (hp G) r11).bind fun x12 => some (some (.int x12), hp G)
    else if w = 1 then (mm_gr 11 15 (hp G) 1).bind fun r13 => (mm_gi 8 8 (hp G) r13).bind fun x14 => some (some (.int x14), hp G)
    else if w = 2 then (mm_gr 11 15 (hp G) 1).bind fun r15 => mm_ci (f_St_leavesOfAll [.ref r15] (hp G)) fun x17 h16 => some (some (.int x17), h16)
    else (mm_gr 11 15 (hp G) 1).bind fun r18 => (mm_gr 8 3 (hp G) r18).bind fun r19 => (mm_gi 1 3 (hp G) r19).bind fun x20 => if x20 = 0 then some (some (.int 0), hp G) else (mm_gr 11 15 (hp G) 1).bind fun r21 => (mm_gr 8 3 (hp G) r21).bind fun r22 => (mm_gi 1 9 (hp G) r22).bind fun x23 => (some (some (.int x23), hp G) : Option (Option Value × mm_H))) = some (some (.int (aftV P B w)), hp G) := by
  have hj := H.jb
  unfold aftV
  by_cases e0 : w = 0
  · rw [if_pos e0, if_pos e0, gg_Ls_trial, Option.bind_some, Option.bind_some, gg_St_job _ H.os, Option.bind_some, Option.bind_some, H.onV, Option.bind_some, H.gat, Option.bind_some]
    unfold atV
    cases h : aJ B with
    | none => rfl
    | some J => rfl
  rw [if_neg e0, if_neg e0]
  by_cases e1 : w = 1
  · rw [if_pos e1, if_pos e1, gg_Ls_trial, Option.bind_some, gg_St_spent _ H.os, Option.bind_some, H.sp]
  rw [if_neg e1, if_neg e1]
  by_cases e2 : w = 2
  · rw [if_pos e2, if_pos e2, gg_Ls_trial, Option.bind_some, s_St_leavesOfAll H, ci_some]
  rw [if_neg e2, if_neg e2, gg_Ls_trial, Option.bind_some, Option.bind_some, gg_St_job _ H.os, Option.bind_some, Option.bind_some, H.onV, Option.bind_some, gg_Jb_records _ H.1.1.jb, Option.bind_some]
  cases h : aJ B with
  | none => rfl
  | some J => rw [h] at hj; rw [hj.1.2.2.2.2.2.2.1]; rfl
theorem k_after (W : CW Z G p P T A U cu) (x w : Int32) : ∃ G', f_Ls_after [.ref 1, .int x, .int w] (hp G) = some (some (.int (aftW P A x w)), hp G') ∧ CW Z G' p P T A U cu := by
  rw [e_Ls_after 1 _ _ _ (ob_Ls G)]
  unfold aftW
  by_cases h1 : x < 0
  · rw [if_pos h1, if_pos (Or.inl (Or.inl h1))]; exact ⟨G, rfl, W⟩
  by_cases h2 : (150 : Int32) < x
  · rw [if_neg h1, if_pos h2, if_pos (Or.inl (Or.inr h2))]; exact ⟨G, rfl, W⟩
  by_cases h3 : w < 0
  · rw [if_neg h1, if_neg h2, if_pos h3, if_pos (Or.inr (Or.inl h3))]; exact ⟨G, rfl, W⟩
  by_cases h4 : (3 : Int32) < w
  · rw [if_neg h1, if_neg h2, if_neg h3, if_pos h4, if_pos (Or.inr (Or.inr h4))]; exact ⟨G, rfl, W⟩
  rw [if_neg h1, if_neg h2, if_neg h3, if_neg h4, if_neg (fun q => q.elim (fun q => q.elim h1 h2) (fun q => q.elim h3 h4))]
  obtain ⟨n, hn, rfl⟩ := (n_cases x).resolve_left h1
  have hn150 : n ≤ 150 := by
    by_cases e : n ≤ 150
    · exact e
    · exact absurd (show (150 : Int32) < nI n from lp (a := 150) (by omega) hn) h2
  obtain ⟨G1, r1, W1⟩ := c_trial W (fun h3 => (mm_gr 11 15 h3 1).bind fun r4 => mm_ci (f_St_advanceBy [.ref r4, .int (nI n)] h3) fun x6 h5 => if w = 0 then (mm_gr 11 15 h5 1).bind fun r7 => (mm_gr 8 3 h5 r7).bind fun r8 => (mm_gi 1 3 h5 r8).bind fun x9 => if x9 = 0 then some (some (.int (-1)), h5) else (mm_gr 11 15 h5 1).bind fun r10 => (mm_gr 8 3 h5 r10).bind fun r11 => (mm_gi 1 5 h5 r11).bind fun x12 => some (some (.int x12), h5)
    else if w = 1 then (mm_gr 11 15 h5 1).bind fun r13 => (mm_gi 8 8 h5 r13).bind fun x14 => some (some (.int x14), h5)
    else if w = 2 then (mm_gr 11 15 h5 1).bind fun r15 => mm_ci (f_St_leavesOfAll [.ref r15] h5) fun x17 h16 => some (some (.int x17), h16)
    else (mm_gr 11 15 h5 1).bind fun r18 => (mm_gr 8 3 h5 r18).bind fun r19 => (mm_gi 1 3 h5 r19).bind fun x20 => if x20 = 0 then some (some (.int 0), h5) else (mm_gr 11 15 h5 1).bind fun r21 => (mm_gr 8 3 h5 r21).bind fun r22 => (mm_gi 1 9 h5 r22).bind fun x23 => (some (some (.int x23), h5) : Option (Option Value × mm_H)))
  obtain ⟨G2, s1, s2, s3⟩ := c_go W1.2.1 W1.2.2 (n := n) (by omega)
  rw [r1, gg_Ls_trial, Option.bind_some, s1, ci_some, nI_tn (by omega), k_aftV s2 w]
  exact ⟨G2, rfl, (W1.go s3 s2 (goS_inv _ W1.2.2)).1⟩
theorem k_during (W : CW Z G p P T A U cu) (x a b c w : Int32) : ∃ G', f_Ls_during [.ref 1, .int x, .int a, .int b, .int c, .int w] (hp G) = some (some (.int (durW P A x a b c w)), hp G') ∧ CW Z G' p P T A U cu := by
  rw [e_Ls_during 1 _ _ _ _ _ _ (ob_Ls G)]
  unfold durW
  by_cases h1 : x < 0
  · rw [if_pos h1, if_pos (Or.inl (Or.inl h1))]; exact ⟨G, rfl, W⟩
  by_cases h2 : (150 : Int32) < x
  · rw [if_neg h1, if_pos h2, if_pos (Or.inl (Or.inr h2))]; exact ⟨G, rfl, W⟩
  by_cases h3 : w < 0
  · rw [if_neg h1, if_neg h2, if_pos h3, if_pos (Or.inr (Or.inl (Or.inl h3)))]; exact ⟨G, rfl, W⟩
  by_cases h4 : (2 : Int32) < w
  · rw [if_neg h1, if_neg h2, if_neg h3, if_pos h4, if_pos (Or.inr (Or.inl (Or.inr h4)))]; exact ⟨G, rfl, W⟩
  rw [if_neg h1, if_neg h2, if_neg h3, if_neg h4, s_Ls_areValues, ci_some]
  cases hv : isVal a && (isVal b && isVal c)
  · rw [if_pos (by decide), if_pos (Or.inr (Or.inr rfl))]; exact ⟨G, rfl, W⟩
  rw [if_neg (show ¬ b2 true = 0 by decide), if_neg (fun q => q.elim (fun q => q.elim h1 h2) (fun q => q.elim (fun q => q.elim h3 h4) (fun q => by cases q)))]
  simp only [Bool.and_eq_true] at hv
  obtain ⟨v1, v2, v3⟩ := hv
  obtain ⟨xa, ha, rfl⟩ := (isVal_iff a).mp v1
  obtain ⟨xb, hb, rfl⟩ := (isVal_iff b).mp v2
  obtain ⟨xc, hc, rfl⟩ := (isVal_iff c).mp v3
  obtain ⟨n, hn, rfl⟩ := (n_cases x).resolve_left h1
  have hn150 : n ≤ 150 := by
    by_cases e : n ≤ 150
    · exact e
    · exact absurd (show (150 : Int32) < nI n from lp (a := 150) (by omega) hn) h2
  obtain ⟨G1, r1, W1⟩ := c_trial W (fun h5 => (mm_gr 11 15 h5 1).bind fun r6 => mm_ci (f_St_advanceBy [.ref r6, .int (nI n)] h5) fun x8 h7 => (mm_gr 11 15 h7 1).bind fun r9 => mm_ci (f_St_admit [.ref r9, .int (nI xa), .int (nI xb), .int (nI xc)] h7) fun x11 h10 => (mm_gr 11 15 h10 1).bind fun r12 => mm_ci (f_St_advanceBy [.ref r12, .int 200] h10) fun x14 h13 => if w = 0 then some (some (.int x11), h13) else if w = 1 then (mm_gr 11 15 h13 1).bind fun r15 => (mm_gi 8 8 h13 r15).bind fun x16 => some (some (.int x16), h13) else (mm_gr 11 15 h13 1).bind fun r17 => mm_ci (f_St_leavesOfAll [.ref r17] h13) fun x19 h18 => (some (some (.int x19), h18) : Option (Option Value × mm_H)))
  obtain ⟨G2, s1, s2, s3⟩ := c_go W1.2.1 W1.2.2 (n := n) (by omega)
  have W2 := W1.go s3 s2 (goS_inv n W1.2.2)
  obtain ⟨G3, t1, t2, t3⟩ := c_admit W2.2.1 W2.2.2 ha hb hc
  have W3 := W2.go t3 t2 (admO_inv W2.2.2 ha hb hc)
  obtain ⟨G4, u1, u2, u3⟩ := c_go W3.2.1 W3.2.2 (n := 200) (by omega)
  have W4 := W3.go u3 u2 (goS_inv 200 W3.2.2)
  rw [r1, gg_Ls_trial, Option.bind_some, s1, ci_some, gg_Ls_trial, Option.bind_some, t1, ci_some, gg_Ls_trial, Option.bind_some, show (200 : Int32) = nI 200 from rfl, u1, ci_some, nI_tn (by omega), nI_tn (by omega), nI_tn (by omega), nI_tn (by omega)]
  refine ⟨G4, ?_, W4.1⟩
  unfold aftV
  by_cases e0 : w = 0
  · rw [if_pos e0, if_pos e0]
  rw [if_neg e0, if_neg e0, if_neg e0, gg_Ls_trial, Option.bind_some, Option.bind_some]
  by_cases e1 : w = 1
  · rw [if_pos e1, if_pos e1, gg_St_spent _ u2.os, Option.bind_some, u2.sp]
  have e2 : w = 2 := by
    obtain ⟨k, hk, rfl⟩ := (n_cases w).resolve_left h3
    have q0 : k ≠ 0 := fun e => e0 (by rw [e]; rfl)
    have q1 : k ≠ 1 := fun e => e1 (by rw [e]; rfl)
    have q2 : ¬ 2 < k := fun e => h4 (show (2 : Int32) < nI k from lp (a := 2) e hk)
    rw [show k = 2 by omega]; rfl
  rw [if_neg e1, if_neg e1, if_pos e2, s_St_leavesOfAll u2, ci_some]
/-- WHEN -/
theorem k_when (W : CW Z G p P T A U cu) (x y : Int32) : ∃ G', f_Ls_when [.ref 1, .int x, .int y] (hp G) = some (some (.int (whnW P A x y)), hp G') ∧ CW Z G' p P T A U cu := by
  have hn := W.inv.ni
  have hm := W.inv.kr.1
  rw [e_Ls_when 1 _ _ _ (ob_Ls G), W.gn, Option.bind_some, gg_St_job _ W.ss.os, Option.bind_some, W.ss.onV, Option.bind_some]
  unfold whnW
  cases hJ : aJ A with
  | none =>
    rw [if_pos (show (if (none : Option JB).isNone = true then (0 : Int32) else 1) = 0 from rfl)]
    exact ⟨G, rfl, W⟩
  | some J =>
    rw [if_neg (show ¬ (if (some J).isNone = true then (0 : Int32) else 1) = 0 from (by decide : ¬ (1 : Int32) = 0)), k_isIndex W, ci_some]
    cases hx : isIx P x
    · rw [if_pos (by decide)]
      exact ⟨G, rfl, W⟩
    obtain ⟨i, hi, rfl⟩ := (isIx_iff hn x).mp hx
    rw [if_neg (by decide), W.gn, Option.bind_some, gg_St_rows _ W.ss.os, Option.bind_some]
    by_cases h0 : y < 0
    · rw [s_Rw_hasCome_neg W.ss.1.1.rw h0, ci_some, if_pos (by decide), decide_eq_true h0]
      exact ⟨G, rfl, W⟩
    obtain ⟨r, hr, rfl⟩ := (n_cases y).resolve_left h0
    rw [s_Rw_hasCome W.ss.1.1.rw W.ss.rw W.ss.kr hr, ci_some, decide_eq_false h0, nI_tn (by omega), nI_tn (by omega)]
    by_cases hlt : r < aM A
    · rw [decide_eq_true hlt, if_neg (by decide), W.gn, Option.bind_some, s_St_leftOf W.ss hi, ci_some, bt_shr1 _ (by omega)]
      cases hb : bt (leftA P A i) r
      · rw [if_pos (by decide)]
        exact ⟨G, rfl, W⟩
      rw [if_neg (by decide), if_pos (show ((some J).isSome && (true && ((!false && true) && true))) = true from rfl)]
      obtain ⟨G1, r1, W1⟩ := c_trial W (fun h15 => mm_run p_Ls_when mm_fu 67 [.ref 1, .int (nI i), .int (nI r), .int 1] [] h15)
      rw [r1]
      have key : ∀ (j n f : Nat) (G : GG) (B : AS), TW Z G p P T A U cu P B → n + j = 201 → j < f → ∃ G', mm_run p_Ls_when f 67 [.ref 1, .int (nI i), .int (nI r), .int (nI n)] [] (hp G) = some (some (.int (whnR P i r j n B)), hp G') ∧ CW Z G' p P T A U cu := by
        intro j
        induction j with
        | zero =>
          intro n f G B W hj hf
          obtain ⟨f, rfl⟩ : ∃ g, f = g + 1 := ⟨f - 1, by omega⟩
          refine ⟨G, ?_, W.1⟩
          rw [e_Ls_when_67, if_pos (show (200 : Int32) < nI n from lp (a := 200) (by omega) (by omega))]
          rfl
        | succ j ih =>
          intro n f G B W hj hf
          obtain ⟨f, rfl⟩ : ∃ g, f = g + 1 := ⟨f - 1, by omega⟩
          obtain ⟨G2, s1, s2, s3⟩ := c_adv W.2.1 W.2.2
          have W2 := W.go s3 s2 (stA_inv W.2.2)
          have hih := ih (n + 1) f G2 _ W2 (by omega) (by omega)
          rw [e_Ls_when_67, if_neg (show ¬ (200 : Int32) < nI n from lm (a := 200) (by omega) (by decide)), gg_Ls_trial, Option.bind_some, gg_St_job _ W.2.1.os, Option.bind_some, W.2.1.gat, Option.bind_some, Option.bind_some, s1, ci_some, show nI n + 1 = nI (n + 1) from nI_add n 1]
          unfold whnR
          by_cases e1 : (stA P B).1 = nI r
          · rw [if_pos e1]
            by_cases e2 : atV B = nI i
            · rw [if_pos e2, if_pos ⟨e1, e2⟩]
              exact ⟨G2, rfl, W2.1⟩
            · rw [if_neg e2, if_neg (fun q => e2 q.2)]
              exact hih
          · rw [if_neg e1, if_neg (fun q => e1 q.1)]
            exact hih
      exact key 200 1 mm_fu G1 _ W1 rfl (fu_lt (by omega))
    · rw [decide_eq_false hlt, if_pos (by decide)]
      exact ⟨G, rfl, W⟩
theorem SS.batch {s : Nat} (H : SS G s p P B) {k : Nat} (h1 : 1 ≤ k) (h8 : k ≤ 8) : SS (gsi G s 7 (nI k)) s p (setB P k) B := by
  have l1 := H.1.2.lo
  have l2 := H.1.1.lo
  obtain ⟨ha, ⟨hp1, hp2⟩, ⟨r1, r2, r3, r4, r5, r6, r7⟩, hk⟩ := H
  have hq : eqOff (inR s (s + 1)) G (gsi G s 7 (nI k)) := eqOff.gsi _ _ ⟨by omega, by omega⟩
  have hpl : isPl (gsi G s 7 (nI k)) p P := hp1.off hq (fun o ho h => by unfold inR at h; omega)
  have htr : isTr (gsi G s 7 (nI k)) s P (aL B) := r3.off hq (fun o ho _ h => by unfold inR at h; omega)
  have hsn : isSn (gsi G s 7 (nI k)) s P (aJ B) := r5.off hq (fun o ho _ h => by unfold inR at h; omega)
  refine ⟨ha, ⟨hpl, okPP_setB hp2 h1 h8⟩, ⟨r1.off hq (fun h => by unfold inR at h; omega) (fun h => by unfold inR at h; omega), r2.off hq (fun o ho h => by unfold inR at h; omega), htr, r4.off hq (fun o ho h => by unfold inR at h; omega), hsn, by rw [gsi_i, if_pos rfl, upd_ne _ _ (by decide)]; exact r6, r7.1, ?_⟩, hk⟩
  rw [gsi_i, if_pos rfl, upd_at]
  rfl
/-- CRASHES -/
theorem k_crashes (W : CW Z G p P T A U cu) (x y : Int32) : ∃ G', f_Ls_crashes [.ref 1, .int x, .int y] (hp G) = some (some (.int (craW P A x y)), hp G') ∧ CW Z G' p P T A U cu := by
  rw [e_Ls_crashes 1 _ _ _ (ob_Ls G), W.gn, Option.bind_some, gg_St_job _ W.ss.os, Option.bind_some, W.ss.onV, Option.bind_some]
  unfold craW
  rcases Bool.eq_false_or_eq_true (aJ A).isNone with hJ | hJ <;> rw [hJ]
  · rw [if_pos (show (if true = true then (0 : Int32) else 1) = 0 from rfl), if_pos (Or.inl rfl)]
    exact ⟨G, rfl, W⟩
  rw [if_neg (show ¬ (if false = true then (0 : Int32) else 1) = 0 by decide)]
  by_cases h1 : x < 1
  · rw [if_pos h1, if_pos (Or.inr (Or.inl (Or.inl h1)))]; exact ⟨G, rfl, W⟩
  by_cases h2 : (50 : Int32) < x
  · rw [if_neg h1, if_pos h2, if_pos (Or.inr (Or.inl (Or.inr h2)))]; exact ⟨G, rfl, W⟩
  by_cases h3 : y < 1
  · rw [if_neg h1, if_neg h2, if_pos h3, if_pos (Or.inr (Or.inr (Or.inl h3)))]; exact ⟨G, rfl, W⟩
  by_cases h4 : (8 : Int32) < y
  · rw [if_neg h1, if_neg h2, if_neg h3, if_pos h4, if_pos (Or.inr (Or.inr (Or.inr h4)))]; exact ⟨G, rfl, W⟩
  rw [if_neg h1, if_neg h2, if_neg h3, if_neg h4, if_neg (fun q => q.elim (fun q => by cases q) (fun q => q.elim (fun q => q.elim h1 h2) (fun q => q.elim h3 h4)))]
  have h10 : ¬ x < 0 := fun e => h1 (Int32.lt_trans e (by decide))
  have h30 : ¬ y < 0 := fun e => h3 (Int32.lt_trans e (by decide))
  obtain ⟨n, hn, rfl⟩ := (n_cases x).resolve_left h10
  obtain ⟨k, hk, rfl⟩ := (n_cases y).resolve_left h30
  have hn1 : 1 ≤ n := by
    by_cases e : 1 ≤ n
    · exact e
    · exact absurd (show nI n < (1 : Int32) from lp (n := 1) (by omega) (by decide)) h1
  have hk1 : 1 ≤ k := by
    by_cases e : 1 ≤ k
    · exact e
    · exact absurd (show nI k < (1 : Int32) from lp (n := 1) (by omega) (by decide)) h3
  have hn50 : n ≤ 50 := by
    by_cases e : n ≤ 50
    · exact e
    · exact absurd (show (50 : Int32) < nI n from lp (a := 50) (by omega) hn) h2
  have hk8 : k ≤ 8 := by
    by_cases e : k ≤ 8
    · exact e
    · exact absurd (show (8 : Int32) < nI k from lp (a := 8) (by omega) hk) h4
  rw [nI_tn (by omega), nI_tn (by omega)]
  obtain ⟨G1, r1, W1⟩ := c_trial W (fun h6 => (mm_gr 11 15 h6 1).bind fun r7 => (mm_pf 8 7 (.int (nI k)) h6 r7).bind fun h8 => mm_run p_Ls_crashes mm_fu 58 [.ref 1, .int (nI n), .int 1] [] h8)
  rw [W.gn] at r1
  rw [r1, gg_Ls_trial, Option.bind_some, ww_St_batch _ W1.2.1.os, Option.bind_some]
  have hq1 : eqOff (inR 142 170) G1 (gsi G1 142 7 (nI k)) := eqOff.gsi _ _ (by unfold inR; omega)
  have H1 : SS (gsi G1 142 7 (nI k)) 142 p (setB P k) (riseO P A).2 := W1.2.1.batch hk1 hk8
  have W2 : TW Z (gsi G1 142 7 (nI k)) p P T A U cu (setB P k) (riseO P A).2 := ⟨W1.1.trial hq1 H1.wf, H1, W1.2.2.setB hk1 hk8⟩
  have key : ∀ (j m f : Nat) (G : GG) (B : AS), TW Z G p P T A U cu (setB P k) B → m + j = 201 → j < f → ∃ G', mm_run p_Ls_crashes f 58 [.ref 1, .int (nI n), .int (nI m)] [] (hp G) = some (some (.int (craR (setB P k) n j m B)), hp G') ∧ CW Z G' p P T A U cu := by
    intro j
    induction j with
    | zero =>
      intro m f G B W hj hf
      obtain ⟨f, rfl⟩ : ∃ g, f = g + 1 := ⟨f - 1, by omega⟩
      refine ⟨G, ?_, W.1⟩
      rw [e_Ls_crashes_58, if_pos (show (200 : Int32) < nI m from lp (a := 200) (by omega) (by omega))]
      rfl
    | succ j ih =>
      intro m f G B W hj hf
      obtain ⟨f, rfl⟩ : ∃ g, f = g + 1 := ⟨f - 1, by omega⟩
      obtain ⟨G2, s1, s2, s3⟩ := c_adv W.2.1 W.2.2
      have W2 := W.go s3 s2 (stA_inv W.2.2)
      rw [e_Ls_crashes_58, if_neg (show ¬ (200 : Int32) < nI m from lm (a := 200) (by omega) (by decide)), gg_Ls_trial, Option.bind_some, s1, ci_some, gg_Ls_trial, Option.bind_some, gg_St_job _ s2.os, Option.bind_some, s2.onV, Option.bind_some, show nI m + 1 = nI (m + 1) from nI_add m 1]
      unfold craR
      cases hN : (aJ (stA (setB P k) B).2).isNone
      · rw [if_neg (show ¬ (if false = true then (0 : Int32) else 1) = 0 by decide), if_neg (show ¬ false = true by decide), if_neg (show ¬ nI n = (0 : Int32) from ln (n := 0) (by omega) (by omega) (by decide)), n_rem (by omega) (by omega) (by omega)]
        by_cases e : m % n = 0
        · obtain ⟨G3, t1, t2, t3⟩ := c_fall W2.2.1 W2.2.2
          have W3 := W2.go t3 t2 (fallO_inv W2.2.2)
          obtain ⟨G4, u1, u2, u3⟩ := c_rise W3.2.1 W3.2.2
          have W4 := W3.go u3 u2 (riseO_inv W3.2.2)
          rw [if_pos (show nI (m % n) = (0 : Int32) from lq (n := 0) e), if_pos e, Option.bind_some, t1, ci_some, gg_Ls_trial, Option.bind_some, u1, ci_some]
          exact ih (m + 1) f G4 _ W4 (by omega) (by omega)
        · have hlt : m % n < n := Nat.mod_lt _ (by omega)
          rw [if_neg (show ¬ nI (m % n) = (0 : Int32) from ln (n := 0) e (by omega) (by decide)), if_neg e]
          exact ih (m + 1) f G2 _ W2 (by omega) (by omega)
      · rw [if_pos (show (if true = true then (0 : Int32) else 1) = 0 from rfl), if_pos (show true = true from rfl)]
        exact ⟨G2, rfl, W2.1⟩
  exact key 200 1 mm_fu _ _ W2 rfl (fu_lt (by omega))
end CWT
