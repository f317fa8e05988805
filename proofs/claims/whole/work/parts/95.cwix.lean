/-! LEAFSWEEP (the class): what is read of an INDEX -/
def havX (V : Nat → Nat → Nat) (s : Int32) (k : Nat) (x : Int32) : Int32 := msk (fun r => bt s r && decide (nI (V r k) = x)) 30
theorem s_Rw_havX {G : GG} {t : Nat} {V : Nat → Nat → Nat} {m : Nat} {d c : Int32} (ho : okRw t) (hi : isRw G t V m d c) (hk : okR V m d c) {k : Nat} (hc : k < 3) (x : Int32) : f_Rw_having [.ref t, .int (nI k), .int x] (hp G) = some (some (.int (havX V (visB d c) k x)), hp G) := by
  have hm := hk.1
  rw [e_Rw_having t _ _ _ (ob_Rw G ho), if_neg (n_nneg (by omega)), if_pos (show nI k < (3 : Int32) from lp (n := 3) hc (by decide))]
  have key : ∀ (j r f : Nat), r + j = m → j < f → mm_run p_Rw_having f 16 [.ref t, .int (nI k), .int x, .int (msk (fun q => decide (nI (V q k) = x)) r), .int (nI r)] [] (hp G) = some (some (.int (havX V (visB d c) k x)), hp G) := by
    intro j
    induction j with
    | zero =>
      intro r f hj hf
      obtain ⟨f, rfl⟩ : ∃ g, f = g + 1 := ⟨f - 1, by omega⟩
      rw [e_Rw_having_16, gg_Rw_come _ ho, Option.bind_some, hi.1.1, if_neg (lm (by omega) (by omega)), gg_Rw_there _ ho, Option.bind_some, hi.1.2.1, gg_Rw_chosen _ ho, Option.bind_some, hi.1.2.2]
      have : (msk (fun q => decide (nI (V q k) = x)) r &&& d) &&& (c ^^^ (-1)) = havX V (visB d c) k x := by
        apply b_ext
        intro i hi32
        unfold havX
        rw [bt_msk _ _ (by omega) i hi32, b_and, b_and, bt_not _ hi32, bt_msk _ _ (by omega) i hi32, bt_vis _ _ hi32]
        cases hd : bt d i
        · simp
        · have := hk.2.2.1 i hd
          have h1 : i < r := by omega
          have h2 : i < 30 := by omega
          simp [h1, h2, Bool.and_comm]
      rw [this]
    | succ j ih =>
      intro r f hj hf
      obtain ⟨f, rfl⟩ : ∃ g, f = g + 1 := ⟨f - 1, by omega⟩
      have hrm : r < m := by omega
      have h1 := ih (r + 1) f (by omega) (by omega)
      rw [e_Rw_having_16, gg_Rw_come _ ho, Option.bind_some, hi.1.1, if_pos (lp hrm (by omega)), if_pos (show nI r < (30 : Int32) from lp (n := 30) (by omega) (by decide)), gg_Rw_value _ ho, Option.bind_some, show nI r * 3 = nI (r * 3) from n_mul r 3, i_add, rr_Rw_value _ ho (by omega), Option.bind_some, hi.2 r k hrm hc, show nI r + 1 = nI (r + 1) from nI_add r 1, show (1 : Int32) <<< (nI r &&& 31) = sbit r from rfl]
      by_cases he : nI (V r k) = x
      · rw [if_pos he]
        rw [msk_y (decide_eq_true he)] at h1
        exact h1
      · rw [if_neg he]
        rw [msk_n (decide_eq_false he)] at h1
        exact h1
  exact key m 0 mm_fu (by omega) (fu_lt (by omega))
section CWX
variable {Z G G' : GG} {p : Nat} {P : PP} {T : TT} {A A' : AS} {U : List AS} {cu : CU}
def idxW (P : PP) (A : AS) (x w : Int32) : Int32 := if isIx P x then (if w = 0 then nI (pKd P x.toNatClampNeg) else if w = 1 then nI (pCo P x.toNatClampNeg) else if w = 2 then nI (aL A x.toNatClampNeg).flatten.length else if w = 3 then nI (aL A x.toNatClampNeg).length else if w = 4 then nI (hg (pPg P) (aL A x.toNatClampNeg).length) else -1) else -1
theorem k_index (W : CW Z G p P T A U cu) (x w : Int32) : f_Ls_index [.ref 1, .int x, .int w] (hp G) = some (some (.int (idxW P A x w)), hp G) := by
  have hn := W.inv.ni
  rw [e_Ls_index 1 _ _ _ (ob_Ls G), k_isIndex W, ci_some]
  unfold idxW
  cases hx : isIx P x
  · rw [if_pos (by decide)]; rfl
  · obtain ⟨i, hi, rfl⟩ := (isIx_iff hn x).mp hx
    rw [if_neg (by decide), W.gn, Option.bind_some, gg_St_trees _ W.ss.os, Option.bind_some, W.ss.gt hi, Option.bind_some, nI_tn (by omega), if_pos (show true = true from rfl)]
    by_cases e0 : w = 0
    · rw [if_pos e0, if_pos e0, W.gpl, Option.bind_some, gg_Pl_kind _ W.ss.op, Option.bind_some, W.ss.gk hi, Option.bind_some]
    rw [if_neg e0, if_neg e0]
    by_cases e1 : w = 1
    · rw [if_pos e1, if_pos e1, W.gpl, Option.bind_some, gg_Pl_column _ W.ss.op, Option.bind_some, W.ss.gc hi, Option.bind_some]
    rw [if_neg e1, if_neg e1]
    by_cases e2 : w = 2
    · rw [if_pos e2, if_pos e2, gg_Lv_entries _ (W.ss.ol hi), Option.bind_some, (W.ss.tr hi).1.1]
    rw [if_neg e2, if_neg e2]
    by_cases e3 : w = 3
    · rw [if_pos e3, if_pos e3, gg_Lv_leaves _ (W.ss.ol hi), Option.bind_some, (W.ss.tr hi).1.2.1]
    rw [if_neg e3, if_neg e3]
    by_cases e4 : w = 4
    · rw [if_pos e4, if_pos e4, s_Lv_height (W.ss.ol hi) (W.ss.tr hi) (W.ss.kl hi).1 (W.ss.kl hi).len, ci_some]
    rw [if_neg e4, if_neg e4]
def leafW (P : PP) (A : AS) (x y z : Int32) : Int32 := if isIx P x then rowAtS (aL A x.toNatClampNeg) y z else -1
theorem k_leaf (W : CW Z G p P T A U cu) (x y z : Int32) : f_Ls_leaf [.ref 1, .int x, .int y, .int z] (hp G) = some (some (.int (leafW P A x y z)), hp G) := by
  have hn := W.inv.ni
  rw [e_Ls_leaf 1 _ _ _ _ (ob_Ls G), k_isIndex W, ci_some]
  unfold leafW
  cases hx : isIx P x
  · rw [if_pos (by decide)]; rfl
  · obtain ⟨i, hi, rfl⟩ := (isIx_iff hn x).mp hx
    rw [if_neg (by decide), W.gn, Option.bind_some, gg_St_trees _ W.ss.os, Option.bind_some, W.ss.gt hi, Option.bind_some, s_Lv_rowAt (W.ss.ol hi) (W.ss.tr hi) (W.ss.kl hi), ci_some, nI_tn (by omega), if_pos (show true = true from rfl)]
def fouW (P : PP) (A : AS) (x k : Int32) : Int32 := if isIx P x then havX (aV A) (visA A) (pCo P x.toNatClampNeg) k &&& readA P A x.toNatClampNeg else -1
theorem k_found (W : CW Z G p P T A U cu) (x k : Int32) : f_Ls_found [.ref 1, .int x, .int k] (hp G) = some (some (.int (fouW P A x k)), hp G) := by
  have hn := W.inv.ni
  rw [e_Ls_found 1 _ _ _ (ob_Ls G), k_isIndex W, ci_some]
  unfold fouW
  cases hx : isIx P x
  · rw [if_pos (by decide)]; rfl
  · obtain ⟨i, hi, rfl⟩ := (isIx_iff hn x).mp hx
    rw [if_neg (by decide), W.gn, Option.bind_some, gg_St_rows _ W.ss.os, Option.bind_some, W.gpl, Option.bind_some, gg_Pl_column _ W.ss.op, Option.bind_some, W.ss.gc hi, Option.bind_some, s_Rw_havX W.ss.1.1.rw W.ss.rw W.ss.kr (W.ss.co hi), ci_some, W.gn, Option.bind_some, s_St_readable W.ss hi, ci_some, nI_tn (by omega), if_pos (show true = true from rfl)]
    rfl
def skiW (P : PP) (A : AS) (x k : Int32) : Int32 := if isIx P x then nI ((aL A x.toNatClampNeg).flatten.filter (fun c => decide (nI (valD (dnP P x.toNatClampNeg) c) = k) && bt (aC A ||| staleA P A x.toNatClampNeg) (c % 32))).length else -1
theorem k_skips (W : CW Z G p P T A U cu) (x k : Int32) : f_Ls_skips [.ref 1, .int x, .int k] (hp G) = some (some (.int (skiW P A x k)), hp G) := by
  have hn := W.inv.ni
  rw [e_Ls_skips 1 _ _ _ (ob_Ls G), k_isIndex W, ci_some]
  unfold skiW
  cases hx : isIx P x
  · rw [if_pos (by decide)]; rfl
  · obtain ⟨i, hi, rfl⟩ := (isIx_iff hn x).mp hx
    rw [if_neg (by decide), W.gn, Option.bind_some, gg_St_trees _ W.ss.os, Option.bind_some, W.ss.gt hi, Option.bind_some, Option.bind_some, gg_St_rows _ W.ss.os, Option.bind_some, gg_Rw_chosen _ W.ss.1.1.rw, Option.bind_some, W.ss.rw.1.2.2, Option.bind_some, s_St_staleRows W.ss hi, ci_some, s_Lv_withValue (W.ss.ol hi) (W.ss.tr hi) (W.ss.kl hi), ci_some, nI_tn (by omega), if_pos (show true = true from rfl)]
def staW (P : PP) (A : AS) (x : Int32) : Int32 := if isIx P x then staleA P A x.toNatClampNeg else -1
theorem k_stale (W : CW Z G p P T A U cu) (x : Int32) : f_Ls_stale [.ref 1, .int x] (hp G) = some (some (.int (staW P A x)), hp G) := by
  have hn := W.inv.ni
  rw [e_Ls_stale 1 _ _ (ob_Ls G), k_isIndex W, ci_some]
  unfold staW
  cases hx : isIx P x
  · rw [if_pos (by decide)]; rfl
  · obtain ⟨i, hi, rfl⟩ := (isIx_iff hn x).mp hx
    rw [if_neg (by decide), W.gn, Option.bind_some, s_St_staleRows W.ss hi, ci_some, nI_tn (by omega), if_pos (show true = true from rfl)]
def misW (P : PP) (A : AS) (x : Int32) : Int32 := if isIx P x then missA P A x.toNatClampNeg else -1
theorem k_missing (W : CW Z G p P T A U cu) (x : Int32) : f_Ls_missing [.ref 1, .int x] (hp G) = some (some (.int (misW P A x)), hp G) := by
  have hn := W.inv.ni
  rw [e_Ls_missing 1 _ _ (ob_Ls G), k_isIndex W, ci_some]
  unfold misW
  cases hx : isIx P x
  · rw [if_pos (by decide)]; rfl
  · obtain ⟨i, hi, rfl⟩ := (isIx_iff hn x).mp hx
    rw [if_neg (by decide), W.gn, Option.bind_some, s_St_missingRows W.ss hi, ci_some, nI_tn (by omega), if_pos (show true = true from rfl)]
def splW (P : PP) (A : AS) (x k : Int32) : Bool := isIx P x && (isVal k && splS (pPg P) (codD (dnP P x.toNatClampNeg) k.toNatClampNeg (aM A)) (aL A x.toNatClampNeg))
theorem k_splits (W : CW Z G p P T A U cu) (x k : Int32) : f_Ls_splits [.ref 1, .int x, .int k] (hp G) = some (some (.int (b2 (splW P A x k))), hp G) := by
  have hn := W.inv.ni
  have hm := W.inv.kr.1
  rw [e_Ls_splits 1 _ _ _ (ob_Ls G), k_isIndex W, ci_some]
  unfold splW
  cases hx : isIx P x
  · rw [if_pos (by decide)]; rfl
  · obtain ⟨i, hi, rfl⟩ := (isIx_iff hn x).mp hx
    rw [if_neg (by decide)]
    cases hk : isVal k
    · unfold isVal at hk
      by_cases h0 : k < 0
      · rw [if_pos h0]; rfl
      · rw [if_neg h0]
        rw [decide_eq_false h0] at hk
        have : (999 : Int32) < k := by
          by_cases e : (999 : Int32) < k
          · exact e
          · rw [decide_eq_false e] at hk; cases hk
        rw [if_pos this]; rfl
    · obtain ⟨v, hv, rfl⟩ := (isVal_iff k).mp hk
      rw [if_neg (n_nneg (by omega)), if_neg (show ¬ (999 : Int32) < nI v from lm (a := 999) (by omega) (by decide)), W.gn, Option.bind_some, gg_St_trees _ W.ss.os, Option.bind_some, W.ss.gt hi, Option.bind_some, Option.bind_some, gg_St_rows _ W.ss.os, Option.bind_some, W.ss.gm, Option.bind_some, s_Lv_code (W.ss.ol hi) (W.ss.tr hi) hv, ci_some, nI_tn (by omega), nI_tn (by omega)]
      have hc : (if dnP P i then 999 - v else v) * 32 + aM A < 2147483648 := by split <;> omega
      rw [s_Lv_wouldSplit (W.ss.ol hi) (W.ss.tr hi) (W.ss.kl hi) hc, ci_some]
      unfold codD
      cases splS (pPg P) ((if dnP P i then 999 - v else v) * 32 + aM A) (aL A i)
      · rfl
      · rfl
def filW (P : PP) (A : AS) (x : Int32) : Int32 := if isIx P x then (if 0 < (aL A x.toNatClampNeg).length then nI (100 * (aL A x.toNatClampNeg).flatten.length / ((aL A x.toNatClampNeg).length * pPg P)) else 0) else -1
theorem k_fill (W : CW Z G p P T A U cu) (x : Int32) : f_Ls_fill [.ref 1, .int x] (hp G) = some (some (.int (filW P A x)), hp G) := by
  have hn := W.inv.ni
  rw [e_Ls_fill 1 _ _ (ob_Ls G), k_isIndex W, ci_some]
  unfold filW
  cases hx : isIx P x
  · rw [if_pos (by decide)]; rfl
  · obtain ⟨i, hi, rfl⟩ := (isIx_iff hn x).mp hx
    have hkl := W.ss.kl hi
    have h30 := hkl.len
    have hf := hkl.2.1
    have hpg := hkl.1
    have hb : (aL A i).length * pPg P ≤ 30 * 8 := Nat.mul_le_mul h30 hpg.2
    rw [if_neg (by decide), W.gn, Option.bind_some, gg_St_trees _ W.ss.os, Option.bind_some, W.ss.gt hi, Option.bind_some, gg_Lv_leaves _ (W.ss.ol hi), Option.bind_some, (W.ss.tr hi).1.2.1, W.gpl, Option.bind_some, gg_Pl_page _ W.ss.op, Option.bind_some, W.ss.2.1.1.1.1, n_mul, nI_tn (by omega), if_pos (show true = true from rfl)]
    by_cases h0 : 0 < (aL A i).length
    · have hpos : 0 < (aL A i).length * pPg P := Nat.mul_pos h0 (by omega)
      rw [if_pos (show (0 : Int32) < nI ((aL A i).length * pPg P) from lp (a := 0) hpos (by omega)), if_pos h0, gg_Lv_entries _ (W.ss.ol hi), Option.bind_some, (W.ss.tr hi).1.1, if_neg (show ¬ nI ((aL A i).length * pPg P) = 0 from ln (n := 0) (by omega) (by omega) (by omega)), show (100 : Int32) * nI (aL A i).flatten.length = nI (100 * (aL A i).flatten.length) from n_mul 100 _, n_div (by omega) (by omega) hpos]
    · have h00 : (aL A i).length = 0 := by omega
      rw [if_neg (show ¬ (0 : Int32) < nI ((aL A i).length * pPg P) by rw [h00, Nat.zero_mul]; decide), if_neg h0]
def spaW (P : PP) (A : AS) (x : Int32) : Int32 := if isIx P x then nI ((aL A x.toNatClampNeg).filter (fun l => decide (2 * l.length < pPg P))).length else -1
theorem k_sparse (W : CW Z G p P T A U cu) (x : Int32) : f_Ls_sparse [.ref 1, .int x] (hp G) = some (some (.int (spaW P A x)), hp G) := by
  have hn := W.inv.ni
  rw [e_Ls_sparse 1 _ _ (ob_Ls G), k_isIndex W, ci_some]
  unfold spaW
  cases hx : isIx P x
  · rw [if_pos (by decide)]; rfl
  · obtain ⟨i, hi, rfl⟩ := (isIx_iff hn x).mp hx
    rw [if_neg (by decide), W.gn, Option.bind_some, gg_St_trees _ W.ss.os, Option.bind_some, W.ss.gt hi, Option.bind_some, s_Lv_underHalf (W.ss.ol hi) (W.ss.tr hi) (W.ss.kl hi), ci_some, nI_tn (by omega), if_pos (show true = true from rfl)]
def cosW (P : PP) (A : AS) (x w : Int32) : Int32 := if isIx P x then (if w = 0 then nI (passC (doomA P A) (pPg P) (aL A x.toNatClampNeg)) else if w = 1 then nI (probeC (doomA P A) (pPg P) (aL A x.toNatClampNeg)) else -1) else -1
theorem k_costs (W : CW Z G p P T A U cu) (x w : Int32) : f_Ls_costs [.ref 1, .int x, .int w] (hp G) = some (some (.int (cosW P A x w)), hp G) := by
  have hn := W.inv.ni
  rw [e_Ls_costs 1 _ _ _ (ob_Ls G), k_isIndex W, ci_some]
  unfold cosW
  cases hx : isIx P x
  · rw [if_pos (by decide)]; rfl
  · obtain ⟨i, hi, rfl⟩ := (isIx_iff hn x).mp hx
    rw [if_neg (by decide), nI_tn (by omega), if_pos (show true = true from rfl)]
    by_cases e0 : w = 0
    · rw [if_pos e0, if_pos e0, W.gn, Option.bind_some, gg_St_trees _ W.ss.os, Option.bind_some, W.ss.gt hi, Option.bind_some, Option.bind_some, s_St_doomed W.ss, ci_some, s_Lv_passCost (W.ss.ol hi) (W.ss.tr hi) (W.ss.kl hi), ci_some]
    rw [if_neg e0, if_neg e0]
    by_cases e1 : w = 1
    · rw [if_pos e1, if_pos e1, W.gn, Option.bind_some, gg_St_trees _ W.ss.os, Option.bind_some, W.ss.gt hi, Option.bind_some, Option.bind_some, s_St_doomed W.ss, ci_some, s_Lv_probeCost (W.ss.ol hi) (W.ss.tr hi) (W.ss.kl hi), ci_some]
    rw [if_neg e1, if_neg e1]
def lefW (P : PP) (A : AS) (x k : Int32) : Int32 := if isIx P x then leftInS (doomA P A) (aL A x.toNatClampNeg) k else -1
theorem k_lefts (W : CW Z G p P T A U cu) (x k : Int32) : f_Ls_lefts [.ref 1, .int x, .int k] (hp G) = some (some (.int (lefW P A x k)), hp G) := by
  have hn := W.inv.ni
  rw [e_Ls_lefts 1 _ _ _ (ob_Ls G), k_isIndex W, ci_some]
  unfold lefW
  cases hx : isIx P x
  · rw [if_pos (by decide)]; rfl
  · obtain ⟨i, hi, rfl⟩ := (isIx_iff hn x).mp hx
    rw [if_neg (by decide), W.gn, Option.bind_some, gg_St_trees _ W.ss.os, Option.bind_some, W.ss.gt hi, Option.bind_some, Option.bind_some, s_St_doomed W.ss, ci_some, s_Lv_leftIn (W.ss.ol hi) (W.ss.tr hi) (W.ss.kl hi), ci_some, nI_tn (by omega), if_pos (show true = true from rfl)]
def wayX (P : PP) (A : AS) (i : Nat) : Nat := match aJ A with
  | none => wayN (doomA P A) (pPg P) (aL A i)
  | some J => if jAt J = i then wayOf (jWy J) else wayN (doomA P A) (pPg P) (aL A i)
theorem wayN_le (d : Int32) (pg : Nat) (L : LL) : wayN d pg L ≤ 1 := by unfold wayN; split <;> omega
def nexW (P : PP) (A : AS) (x k : Int32) : Int32 := if isIx P x then lk k 0 (leftsW (wayX P A x.toNatClampNeg) (doomA P A) (aL A x.toNatClampNeg)) else -1
theorem k_next (W : CW Z G p P T A U cu) (x k : Int32) : f_Ls_next [.ref 1, .int x, .int k] (hp G) = some (some (.int (nexW P A x k)), hp G) := by
  have hn := W.inv.ni
  rw [e_Ls_next 1 _ _ _ (ob_Ls G), k_isIndex W, ci_some]
  unfold nexW
  cases hx : isIx P x
  · rw [if_pos (by decide)]; rfl
  · obtain ⟨i, hi, rfl⟩ := (isIx_iff hn x).mp hx
    have hjb := W.ss.jb
    rw [if_neg (by decide), W.gn, Option.bind_some, s_St_doomed W.ss, ci_some, W.gn, Option.bind_some, gg_St_job _ W.ss.os, Option.bind_some, s_Jb_isAt W.ss.1.1.jb W.ss.jb W.ss.kj (show i < 4 by omega), ci_some, nI_tn (by omega), if_pos (show true = true from rfl)]
    have hno : atO (aJ A) i = false → wayX P A i = wayN (doomA P A) (pPg P) (aL A i) := fun h => by
      unfold wayX
      unfold atO at h
      cases hJ : aJ A with
      | none => rfl
      | some J =>
        rw [hJ] at h
        simp only at h ⊢
        rw [if_neg]
        intro e
        rw [e] at h
        simp at h
    cases hat : atO (aJ A) i
    · rw [if_pos (by decide), W.gn, Option.bind_some, gg_St_trees _ W.ss.os, Option.bind_some, W.ss.gt hi, Option.bind_some, s_Lv_wayFor (W.ss.ol hi) (W.ss.tr hi) (W.ss.kl hi), ci_some, W.gn, Option.bind_some, gg_St_trees _ W.ss.os, Option.bind_some, W.ss.gt hi, Option.bind_some, s_Lv_leftAt (W.ss.ol hi) (W.ss.tr hi) (W.ss.kl hi) k _ (wayN_le _ _ _), ci_some, hno hat]
    · obtain ⟨J, hJ, hji⟩ : ∃ J, aJ A = some J ∧ jAt J = i := by
        unfold atO at hat
        cases hJ : aJ A with
        | none => rw [hJ] at hat; cases hat
        | some J =>
          rw [hJ] at hat
          exact ⟨J, rfl, by simpa using hat⟩
      have hwy := W.inv.wy hJ (by omega)
      have hw2 : jWy J = nI (wayOf (jWy J)) := by rcases hwy with e | e <;> rw [e] <;> rfl
      have hwx : wayX P A i = wayOf (jWy J) := by
        unfold wayX
        rw [hJ]
        exact if_pos hji
      rw [hJ] at hjb
      rw [if_neg (by decide), W.gn, Option.bind_some, gg_St_job _ W.ss.os, Option.bind_some, gg_Jb_way _ W.ss.1.1.jb, Option.bind_some, hjb.1.2.2.2.1, Option.bind_some, gg_St_trees _ W.ss.os, Option.bind_some, W.ss.gt hi, Option.bind_some, hw2, s_Lv_leftAt (W.ss.ol hi) (W.ss.tr hi) (W.ss.kl hi) k _ (by unfold wayOf; split <;> omega), ci_some, hwx]
end CWX
