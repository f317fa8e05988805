/-! LEAFSWEEP (the class): loops, the trial -/
/-- another batch -/
def setB (P : PP) (k : Nat) : PP := (P.1, P.2.1, P.2.2.1, P.2.2.2.1, P.2.2.2.2.1, P.2.2.2.2.2.1, k)
theorem rpl_setB {P : PP} {k i : Nat} : ∀ {xs : List Int32} {D W : Nat → Prop}, rpl P i D xs W → rpl (setB P k) i D xs W
  | [], _, _, r => r
  | _ :: _, _, _, r => ⟨r.1, r.2.1, r.2.2.1, rpl_setB r.2.2.2⟩
section CWL
variable {Z G G' : GG} {p : Nat} {P Q : PP} {T : TT} {A A' B B' : AS} {U : List AS} {cu : CU}
theorem okPP_setB (h : okPP P) {k : Nat} (h1 : 1 ≤ k) (h8 : k ≤ 8) : okPP (setB P k) := ⟨h.1, h.2.1, h.2.2.1, h.2.2.2.1, h.2.2.2.2.1, h.2.2.2.2.2.1, h1, h8⟩
theorem INV.setB (h : INV P A) {k : Nat} (h1 : 1 ≤ k) (h8 : k ≤ 8) : INV (setB P k) A := by
  obtain ⟨⟨a1, a2⟩, b, c, d, e⟩ := h
  refine ⟨⟨okPP_setB a1 h1 h8, a2⟩, b, c, d, fun J hJ => ?_⟩
  obtain ⟨j1, j2, j3, j4, j5⟩ := e J hJ
  refine ⟨j1, fun ha => ?_, j3, j4, j5⟩
  obtain ⟨⟨q1, q2⟩, q3⟩ := j2 ha
  exact ⟨⟨rpl_setB q1, q2⟩, q3⟩
/-- the trial stands for B under the plan Q -/
def TW (Z G : GG) (p : Nat) (P : PP) (T : TT) (A : AS) (U : List AS) (cu : CU) (Q : PP) (B : AS) : Prop := CW Z G p P T A U cu ∧ SS G 142 p Q B ∧ INV Q B
theorem ad142 : adSt 142 := ⟨2, by decide, rfl⟩
theorem CW.trial (W : CW Z G p P T A U cu) (hq : eqOff (inR 142 170) G G') (hw : wfS G' 142) : CW Z G' p P T A U cu := by
  obtain ⟨⟨⟨a1, a2, a3⟩, a4, a5⟩, -⟩ := id W
  exact (W.other ad142 (fun e => a1.2 e.symm) (fun k hk e => (a4 k hk).1.2 e.symm) hq hw).1
theorem TW.go (W : TW Z G p P T A U cu Q B) (hq : eqOff (inR 142 170) G G') (H : SS G' 142 p Q B') (h : INV Q B') : TW Z G' p P T A U cu Q B' := ⟨W.1.trial hq H.wf, H, h⟩
/-- the trial becomes what is now, going -/
theorem c_trial (W : CW Z G p P T A U cu) {ρ : Type} (k : mm_H → Option ρ) : ∃ G', ((mm_gr 11 15 (hp G) 1).bind fun r1 => (mm_gr 11 13 (hp G) 1).bind fun r2 => mm_cv (f_St_becomeRisen [.ref r1, .ref r2] (hp G)) k) = k (hp G') ∧ TW Z G' p P T A U cu P (riseO P A).2 := by
  obtain ⟨⟨⟨a1, a2, a3⟩, a4, a5⟩, -⟩ := id W
  obtain ⟨G', r1, r2, r3, r4⟩ := c_risen W.ss W.inv ad142 (fun e => a1.2 e.symm)
  rw [gg_Ls_trial, Option.bind_some, W.gn, Option.bind_some, r1, cv_some]
  exact ⟨G', rfl, W.trial r4 r2.wf, r2, riseO_inv W.inv⟩
/-- WAYS -/
theorem k_ways (W : CW Z G p P T A U cu) : f_Ls_ways [.ref 1] (hp G) = some (some (.int (msk (fun i => wayN (doomA P A) (pPg P) (aL A i) == 0) (pNi P))), hp G) := by
  have hn := W.inv.ni
  rw [e_Ls_ways 1 _ (ob_Ls G), W.gn, Option.bind_some, s_St_doomed W.ss, ci_some]
  refine msk_loop (n := pNi P) (p := fun i => wayN (doomA P A) (pPg P) (aL A i) == 0) (R := fun f i x => mm_run p_Ls_ways f 12 [.ref 1, .int (doomA P A), .int x, .int (nI i)] [] (hp G)) (fun f i hi => ?_) (fun f => ?_) (fu_lt (by omega))
  · show mm_run _ _ _ _ _ _ = mm_run _ _ _ _ _ _
    rw [e_Ls_ways_12, W.gpl, Option.bind_some, W.ss.gn, Option.bind_some, if_pos (lp hi (by omega)), W.gn, Option.bind_some, gg_St_trees _ W.ss.os, Option.bind_some, W.ss.gt hi, Option.bind_some, s_Lv_wayFor (W.ss.ol hi) (W.ss.tr hi) (W.ss.kl hi), ci_some, show nI i + 1 = nI (i + 1) from nI_add i 1, show (1 : Int32) <<< (nI i &&& 31) = sbit i from rfl]
    have hle := wayN_le (doomA P A) (pPg P) (aL A i)
    by_cases e : wayN (doomA P A) (pPg P) (aL A i) = 0
    · rw [if_pos (show nI (wayN (doomA P A) (pPg P) (aL A i)) = (0 : Int32) from lq (n := 0) e), msk_y (by rw [e]; rfl)]
    · rw [if_neg (show ¬ nI (wayN (doomA P A) (pPg P) (aL A i)) = (0 : Int32) from ln (n := 0) e (by omega) (by decide)), msk_n (by simp [e])]
  · show mm_run _ _ _ _ _ _ = _
    rw [e_Ls_ways_12, W.gpl, Option.bind_some, W.ss.gn, Option.bind_some, if_neg (lm (Nat.le_refl _) (by omega))]
/-- STEPS -/
def steW (P : PP) (A : AS) : Int32 := match aJ A with
  | none => -1
  | some _ => nI ((List.range (pNi P)).foldl (fun a i => a + bc (leftA P A i)) 0 + 1)
theorem k_steps (W : CW Z G p P T A U cu) : f_Ls_steps [.ref 1] (hp G) = some (some (.int (steW P A)), hp G) := by
  have hn := W.inv.ni
  have hj := W.ss.jb
  rw [e_Ls_steps 1 _ (ob_Ls G), W.gn, Option.bind_some, gg_St_job _ W.ss.os, Option.bind_some, gg_Jb_on _ W.ss.1.1.jb, Option.bind_some]
  unfold steW
  cases h : aJ A with
  | none =>
    rw [h] at hj
    rw [hj.1, if_pos rfl]
  | some J =>
    rw [h] at hj
    rw [hj.1.1, if_neg (by decide)]
    have := fold_loop (n := pNi P) (g := fun a i => a + bc (leftA P A i)) (R := fun f i a => mm_run p_Ls_steps f 19 [.ref 1, .int (nI a), .int (nI i)] [] (hp G)) (fin := fun a => some (some (.int (nI (a + 1))), hp G)) (fun _ _ => True) (fun f i a hi _ => by
      refine ⟨?_, trivial⟩
      show mm_run _ _ _ _ _ _ = mm_run _ _ _ _ _ _
      rw [e_Ls_steps_19, W.gpl, Option.bind_some, W.ss.gn, Option.bind_some, if_pos (lp hi (by omega)), W.gn, Option.bind_some, s_St_leftOf W.ss hi, ci_some, s_Ji_bitCount, ci_some, i_add, show nI i + 1 = nI (i + 1) from nI_add i 1]) (fun f a _ => by
      show mm_run _ _ _ _ _ _ = _
      rw [e_Ls_steps_19, W.gpl, Option.bind_some, W.ss.gn, Option.bind_some, if_neg (lm (Nat.le_refl _) (by omega)), show nI a + 1 = nI (a + 1) from nI_add a 1]) trivial (a := 0) (fu_lt (by omega))
    exact this.1
/-- TURN -/
def upT (L : LL) (n : Nat) : Int32 := msk (fun r => bt (rb L) r) n
theorem upT_s (L : LL) {r : Nat} (hr : r < 32) : upT L r ||| (rb L &&& ((1 : Int32) <<< (nI r &&& 31))) = upT L (r + 1) := by
  unfold upT
  show _ ||| (rb L &&& sbit r) = _
  cases h : bt (rb L) r
  · rw [msk_n h, show rb L &&& sbit r = 0 from b_ext (fun i hi => by
      rw [b_and, bt_sbit hr hi, b_0]
      by_cases e : i = r
      · rw [e, h]; rfl
      · simp [e])]
    exact or_zero _
  · rw [msk_y h, show rb L &&& sbit r = sbit r from b_ext (fun i hi => by
      rw [b_and, bt_sbit hr hi]
      by_cases e : i = r
      · rw [e, h]; rfl
      · simp [e])]
def turR (pg : Nat) (L : LL) : Nat → Nat → Int32
  | 0, _ => -1
  | f + 1, r => if wayN (upT L (r + 1)) pg L = 1 then nI (bc (upT L (r + 1))) else turR pg L f (r + 1)
def turW (P : PP) (A : AS) (x : Int32) : Int32 := if isIx P x then turR (pPg P) (aL A x.toNatClampNeg) 30 0 else -1
theorem k_turn (W : CW Z G p P T A U cu) (x : Int32) : f_Ls_turn [.ref 1, .int x] (hp G) = some (some (.int (turW P A x)), hp G) := by
  have hn := W.inv.ni
  rw [e_Ls_turn 1 _ _ (ob_Ls G), k_isIndex W, ci_some]
  unfold turW
  cases hx : isIx P x
  · rw [if_pos (by decide)]; rfl
  · obtain ⟨i, hi, rfl⟩ := (isIx_iff hn x).mp hx
    rw [if_neg (by decide), W.gn, Option.bind_some, gg_St_trees _ W.ss.os, Option.bind_some, W.ss.gt hi, Option.bind_some, s_Lv_rowBits (W.ss.ol hi) (W.ss.tr hi) (W.ss.kl hi).2.1, ci_some, nI_tn (by omega), if_pos (show true = true from rfl)]
    have key : ∀ (j r f : Nat), r + j = 30 → j < f → mm_run p_Ls_turn f 31 [.ref (lsNow G + 16 + 3 * i), .int (rb (aL A i)), .int (upT (aL A i) r), .int (nI r)] [] (hp G) = some (some (.int (turR (pPg P) (aL A i) j r)), hp G) := by
      intro j
      induction j with
      | zero =>
        intro r f hj hf
        obtain ⟨f, rfl⟩ : ∃ g, f = g + 1 := ⟨f - 1, by omega⟩
        rw [e_Ls_turn_31, if_neg (show ¬ nI r < (30 : Int32) from lm (n := 30) (by omega) (by omega))]
        rfl
      | succ j ih =>
        intro r f hj hf
        obtain ⟨f, rfl⟩ : ∃ g, f = g + 1 := ⟨f - 1, by omega⟩
        rw [e_Ls_turn_31, if_pos (show nI r < (30 : Int32) from lp (n := 30) (by omega) (by decide)), upT_s _ (by omega), s_Lv_wayFor (W.ss.ol hi) (W.ss.tr hi) (W.ss.kl hi), ci_some]
        have hle := wayN_le (upT (aL A i) (r + 1)) (pPg P) (aL A i)
        unfold turR
        by_cases e : wayN (upT (aL A i) (r + 1)) (pPg P) (aL A i) = 1
        · rw [if_pos (show nI (wayN (upT (aL A i) (r + 1)) (pPg P) (aL A i)) = (1 : Int32) from lq (n := 1) e), if_pos e, s_Ji_bitCount, ci_some]
        · rw [if_neg (show ¬ nI (wayN (upT (aL A i) (r + 1)) (pPg P) (aL A i)) = (1 : Int32) from ln (n := 1) e (by omega) (by decide)), if_neg e, show nI r + 1 = nI (r + 1) from nI_add r 1]
          exact ih (r + 1) f (by omega) (by omega)
    exact key 30 0 mm_fu rfl (fu_lt (by omega))
/-- FETCH -/
def aheadK (P : PP) (A : AS) (i r : Nat) (key : Int32) : Bool := if dnP P i then decide (key < nI (valA P A i r)) else decide (nI (valA P A i r) < key)
def fetF (P : PP) (A : AS) (cu : CU) (i : Nat) (a : Int32) (r : Nat) : Int32 := if bt (readA P A i) r && (decide (cu.2.2 < nI (codA P A i r)) && (!aheadK P A i r cu.2.1 && (decide (a = -1) || decide (nI (codA P A i r) < a)))) then nI (codA P A i r) else a
def fetB (P : PP) (A : AS) (cu : CU) (i : Nat) : Int32 := (List.range (aM A)).foldl (fetF P A cu i) (-1)
def fetW (P : PP) (A : AS) (cu : CU) : Int32 × CU := if isIx P cu.1 then (if fetB P A cu cu.1.toNatClampNeg = -1 then (-1, cu) else (nI ((fetB P A cu cu.1.toNatClampNeg).toNatClampNeg % 32), (cu.1, cu.2.1, fetB P A cu cu.1.toNatClampNeg))) else (-1, cu)
theorem codA_lt (h : INV P A) {i r : Nat} (hi : i < pNi P) (hr : r < aM A) : codA P A i r < 32000 := by
  have h1 := h.kr.1
  have h2 := h.kr.2.1 r (pCo P i) hr (h.pp.2.2.1 i hi).2
  unfold codA codD valA
  split <;> omega
theorem k_ahead (W : CW Z G p P T A U cu) {i r : Nat} (hc : cu.1 = nI i) (hi : i < pNi P) (hr : r < aM A) : f_Ls_isAheadOfKey [.ref 1, .int (nI r)] (hp G) = some (some (.int (b2 (aheadK P A i r cu.2.1))), hp G) := by
  have c := W.2.2.2.2.2.1
  have hkd := (W.inv.pp.2.2.1 i hi).1
  rw [e_Ls_isAheadOfKey 1 _ _ (ob_Ls G), W.gn, Option.bind_some, gg_St_rows _ W.ss.os, Option.bind_some, W.gpl, Option.bind_some, gg_Pl_column _ W.ss.op, Option.bind_some, gg_Ls_cursorIndex, Option.bind_some, c.1, hc, W.ss.gc hi, Option.bind_some, s_Rw_valueOf W.ss.1.1.rw W.ss.rw W.ss.kr hr (W.ss.co hi), ci_some, W.gpl, Option.bind_some, gg_Pl_kind _ W.ss.op, Option.bind_some, gg_Ls_cursorIndex, Option.bind_some, c.1, hc, W.ss.gk hi, Option.bind_some]
  unfold aheadK dnP
  by_cases e : pKd P i = 1
  · rw [if_pos (show nI (pKd P i) = (1 : Int32) from lq (n := 1) e), gg_Ls_cursorKey, Option.bind_some, c.2.1, e, if_pos (show (1 == 1) = true from rfl)]
    by_cases q : cu.2.1 < nI (aV A r (pCo P i))
    · rw [if_pos q, decide_eq_true (show cu.2.1 < nI (valA P A i r) from q)]; rfl
    · rw [if_neg q, decide_eq_false (show ¬ cu.2.1 < nI (valA P A i r) from q)]; rfl
  · rw [if_neg (show ¬ nI (pKd P i) = (1 : Int32) from ln (n := 1) e (by omega) (by decide)), gg_Ls_cursorKey, Option.bind_some, c.2.1, if_neg (show ¬ (pKd P i == 1) = true by simp [e])]
    by_cases q : nI (aV A r (pCo P i)) < cu.2.1
    · rw [if_pos q, decide_eq_true (show nI (valA P A i r) < cu.2.1 from q)]; rfl
    · rw [if_neg q, decide_eq_false (show ¬ nI (valA P A i r) < cu.2.1 from q)]; rfl
theorem fetF_ok (h : INV P A) {i r : Nat} (hi : i < pNi P) (hr : r < aM A) {a : Int32} (ha : a = -1 ∨ ∃ n, n < 32000 ∧ a = nI n) : fetF P A cu i a r = -1 ∨ ∃ n, n < 32000 ∧ fetF P A cu i a r = nI n := by
  unfold fetF
  split
  · exact Or.inr ⟨_, codA_lt h hi hr, rfl⟩
  · exact ha
theorem k_fetch (W : CW Z G p P T A U cu) : ∃ G', f_Ls_fetch [.ref 1] (hp G) = some (some (.int (fetW P A cu).1), hp G') ∧ CW Z G' p P T A U (fetW P A cu).2 := by
  have hn := W.inv.ni
  have hm := W.inv.kr.1
  have c := W.2.2.2.2.2.1
  rw [e_Ls_fetch 1 _ (ob_Ls G), gg_Ls_cursorIndex, Option.bind_some, c.1, k_isIndex W, ci_some]
  unfold fetW
  cases hx : isIx P cu.1
  · rw [if_pos (by decide)]
    exact ⟨G, rfl, W⟩
  · obtain ⟨i, hi, hc⟩ := (isIx_iff hn cu.1).mp hx
    rw [if_neg (by decide), W.gn, Option.bind_some, gg_Ls_cursorIndex, Option.bind_some, c.1, hc, s_St_readable W.ss hi, ci_some, nI_tn (by omega), if_pos (show true = true from rfl)]
    have hfold := fold_loop (n := aM A) (g := fetF P A cu i) (R := fun f r a => mm_run p_Ls_fetch f 29 [.ref 1, .int (readA P A i), .int a, .int (nI r)] [] (hp G)) (fin := fun a => if a = -1 then some (some (.int (-1)), hp G) else (mm_pf 11 8 (.int a) (hp G) 1).bind fun h11 => mm_ci (f_Lv_rowIn [.int a] h11) fun x13 h12 => some (some (.int x13), h12)) (fun _ a => a = -1 ∨ ∃ n, n < 32000 ∧ a = nI n) (fun f r a hr ha => by
      refine ⟨?_, fetF_ok W.inv hi hr ha⟩
      show mm_run _ _ _ _ _ _ = mm_run _ _ _ _ _ _
      rw [e_Ls_fetch_29, W.gn, Option.bind_some, gg_St_rows _ W.ss.os, Option.bind_some, W.ss.gm, Option.bind_some, if_pos (lp hr (by omega)), Option.bind_some, gg_Ls_cursorIndex, Option.bind_some, c.1, hc, s_St_codeOf W.ss hi hr, ci_some, bt_shr1 _ (by omega), show nI r + 1 = nI (r + 1) from nI_add r 1]
      unfold fetF
      cases h1 : bt (readA P A i) r
      · rw [if_pos (by decide)]; rfl
      · rw [if_neg (by decide), gg_Ls_fetched, Option.bind_some, c.2.2]
        by_cases h2 : cu.2.2 < nI (codA P A i r)
        · rw [if_pos h2, k_ahead W hc hi hr, ci_some, decide_eq_true h2]
          cases h3 : aheadK P A i r cu.2.1
          · rw [if_pos (by decide)]
            by_cases h4 : a = -1
            · rw [if_pos h4, decide_eq_true h4]; rfl
            · rw [if_neg h4, decide_eq_false h4]
              by_cases h5 : nI (codA P A i r) < a
              · rw [if_pos h5, decide_eq_true h5]; rfl
              · rw [if_neg h5, decide_eq_false h5]; rfl
          · rw [if_neg (by decide)]; rfl
        · rw [if_neg h2, decide_eq_false h2]; rfl) (fun f a ha => by
      show mm_run _ _ _ _ _ _ = _
      rw [e_Ls_fetch_29, W.gn, Option.bind_some, gg_St_rows _ W.ss.os, Option.bind_some, W.ss.gm, Option.bind_some, if_neg (lm (Nat.le_refl _) (by omega))]) (Or.inl rfl) (a := -1) (f := mm_fu) (fu_lt (by omega))
    obtain ⟨hr1, hr2⟩ := hfold
    suffices hS : ∃ G', (if fetB P A cu i = -1 then (some (some (Value.int (-1)), hp G) : Option (Option Value × mm_H)) else (mm_pf 11 8 (.int (fetB P A cu i)) (hp G) 1).bind fun h11 => mm_ci (f_Lv_rowIn [.int (fetB P A cu i)] h11) fun x13 h12 => some (some (Value.int x13), h12)) = some (some (Value.int (if fetB P A cu i = -1 then ((-1, cu) : Int32 × CU) else (nI ((fetB P A cu i).toNatClampNeg % 32), (nI i, cu.2.1, fetB P A cu i))).1), hp G') ∧ CW Z G' p P T A U (if fetB P A cu i = -1 then ((-1, cu) : Int32 × CU) else (nI ((fetB P A cu i).toNatClampNeg % 32), (nI i, cu.2.1, fetB P A cu i))).2 by
      obtain ⟨G', q1, q2⟩ := hS
      exact ⟨G', hr1.trans q1, q2⟩
    change fetB P A cu i = -1 ∨ ∃ n, n < 32000 ∧ fetB P A cu i = nI n at hr2
    by_cases hb : fetB P A cu i = -1
    · rw [if_pos hb, if_pos hb]
      exact ⟨G, rfl, W⟩
    · obtain ⟨n, hn3, hbn⟩ := hr2.resolve_left hb
      obtain ⟨o, o1, o2, o3, o4, o5⟩ := W.2.2.2.1
      rw [if_neg hb, if_neg hb, hbn, ww_Ls_fetched, Option.bind_some, s_Lv_rowIn, ci_some, nI_tn (by omega)]
      refine ⟨_, rfl, W.num (g := upd (G.1 1) 8 (nI n)) (upd_ne _ _ (by decide)) (by rw [upd_ne _ _ (by decide)]; exact o4) ⟨[], by simp⟩ ?_⟩
      rw [upd_ne _ _ (by decide), upd_ne _ _ (by decide), upd_at]
      exact ⟨by rw [c.1, hc], c.2.1, rfl⟩
end CWL
