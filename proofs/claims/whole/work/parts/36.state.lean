/-! STATE (the class): what it stands for, and what it reads -/
/-- a plan: page, indexes, kinds, columns, choose, part, batch -/
abbrev PP := Nat × Nat × (Nat → Nat) × (Nat → Nat) × List Lim × List Lim × Nat
def pPg (P : PP) : Nat := P.1
def pNi (P : PP) : Nat := P.2.1
def pKd (P : PP) : Nat → Nat := P.2.2.1
def pCo (P : PP) : Nat → Nat := P.2.2.2.1
def pCh (P : PP) : List Lim := P.2.2.2.2.1
def pPa (P : PP) : List Lim := P.2.2.2.2.2.1
def pBt (P : PP) : Nat := P.2.2.2.2.2.2
def okPP (P : PP) : Prop := (2 ≤ pPg P ∧ pPg P ≤ 8) ∧ pNi P ≤ 4 ∧ (∀ i, i < pNi P → pKd P i ≤ 3 ∧ pCo P i < 3) ∧ okW (pCh P) ∧ okW (pPa P) ∧ (∀ l ∈ pPa P, lKd l = 28 ∨ lKd l = 31 ∨ lKd l = 32) ∧ 1 ≤ pBt P ∧ pBt P ≤ 8
def isPl (G : GG) (p : Nat) (P : PP) : Prop := (G.1 p 8 = nI (pPg P) ∧ G.1 p 10 = nI (pNi P)) ∧ (∀ i, i < pNi P → G.1 (p + 1) i = nI (pKd P i) ∧ G.1 (p + 2) i = nI (pCo P i)) ∧ isWh G (p + 7) (pCh P) ∧ isWh G (p + 14) (pPa P)
/-- rows, pointers, trees, job, spent -/
abbrev AS := ((Nat → Nat → Nat) × Nat × Int32 × Int32) × (Nat × (Nat → Nat) × (Nat → Int32) × (Nat → Int32)) × (Nat → LL) × Option JB × Int32
def aV (A : AS) : Nat → Nat → Nat := A.1.1
def aM (A : AS) : Nat := A.1.2.1
def aD (A : AS) : Int32 := A.1.2.2.1
def aC (A : AS) : Int32 := A.1.2.2.2
def aN (A : AS) : Nat := A.2.1.1
def aS (A : AS) : Nat → Nat := A.2.1.2.1
def aT (A : AS) : Nat → Int32 := A.2.1.2.2.1
def aB (A : AS) : Nat → Int32 := A.2.1.2.2.2
def aL (A : AS) : Nat → LL := A.2.2.1
def aJ (A : AS) : Option JB := A.2.2.2.1
def aX (A : AS) : Int32 := A.2.2.2.2
def dnP (P : PP) (i : Nat) : Bool := pKd P i == 1
def isTr (G : GG) (s : Nat) (P : PP) (L : Nat → LL) : Prop := ∀ i, i < 4 → ∃ dn, isLv G (s + 16 + 3 * i) (pPg P) dn (L i) ∧ (i < pNi P → dn = dnP P i)
/-- what stands since the last record -/
def isSn (G : GG) (s : Nat) (P : PP) (o : Option JB) : Prop := ∃ pg dn L, isLv G (s + 11) pg dn L ∧ okL pg L ∧ ∀ J, o = some J → jAt J < pNi P → pg = pPg P ∧ dn = dnP P (jAt J) ∧ L = jSt J
def isSt (G : GG) (s p : Nat) (P : PP) (A : AS) : Prop := isRw G (s + 1) (aV A) (aM A) (aD A) (aC A) ∧ isPt G (s + 3) (aN A) (aS A) (aT A) (aB A) ∧ isTr G s P (aL A) ∧ isJb G (s + 8) (aJ A) ∧ isSn G s P (aJ A) ∧ G.1 s 8 = aX A ∧ G.2.2 s 6 = p ∧ G.1 s 7 = nI (pBt P)
def okA (P : PP) (A : AS) : Prop := okR (aV A) (aM A) (aD A) (aC A) ∧ okP (aN A) (aS A) (aT A) ∧ (∀ i, i < 4 → okL (pPg P) (aL A i)) ∧ okJo (aJ A)
/-- all of it -/
def SS (G : GG) (s p : Nat) (P : PP) (A : AS) : Prop := (adSt s ∧ adPl p) ∧ (isPl G p P ∧ okPP P) ∧ isSt G s p P A ∧ okA P A
/-! what is so -/
def visA (A : AS) : Int32 := visB (aD A) (aC A)
def partA (P : PP) (A : AS) (r : Nat) : Bool := holdsW (limN (aV A) (visA A) (aN A) (aT A) r) (pPa P)
def chooA (P : PP) (A : AS) (r : Nat) : Bool := holdsW (limN (aV A) (visA A) (aN A) (aT A) r) (pCh P)
def belA (P : PP) (A : AS) (i r : Nat) : Bool := !(pKd P i == 3) || partA P A r
def valA (P : PP) (A : AS) (i r : Nat) : Nat := aV A r (pCo P i)
def codD (dn : Bool) (v r : Nat) : Nat := (if dn then 999 - v else v) * 32 + r
def codA (P : PP) (A : AS) (i r : Nat) : Nat := codD (dnP P i) (valA P A i r) r
def readA (P : PP) (A : AS) (i : Nat) : Int32 := msk (fun r => bt (visA A) r && belA P A i r) (aM A)
def holdA (P : PP) (A : AS) (r : Nat) : Int32 := msk (fun i => bt (rb (aL A i)) r) (pNi P)
def wouldA (P : PP) (A : AS) : Int32 := msk (fun r => bt (visA A) r && chooA P A r) (aM A)
def doomA (P : PP) (A : AS) : Int32 := match aJ A with
  | none => wouldA P A
  | some _ => aC A
def isOnce (P : PP) (i k : Nat) : Bool := pKd P i == 2 && pCo P i == k
def clashA (P : PP) (A : AS) (k v : Nat) : Int32 := msk (fun i => isOnce P i k && !decide (havS (aV A) (visA A) k v = 0)) (pNi P)
def hindA (A : AS) (x : Int32) : Int32 := msk (fun p => isFirmP (aS A) (aT A) p && (!decide (havS (aV A) (visA A) 0 (aT A p).toNatClampNeg &&& x = 0) && decide (havS (aV A) (visA A) 0 (aT A p).toNatClampNeg &&& (x ^^^ (-1)) = 0))) (aN A)
theorem msk_y {p : Nat → Bool} {n : Nat} (h : p n = true) : msk p (n + 1) = msk p n ||| sbit n := by rw [msk, if_pos h]
theorem msk_n {p : Nat → Bool} {n : Nat} (h : p n = false) : msk p (n + 1) = msk p n := by
  rw [msk, if_neg (by rw [h]; decide)]
  apply b_ext
  intro i _
  rw [b_or, b_0, Bool.or_false]
theorem msk_loop {ρ : Type} {n : Nat} {p : Nat → Bool} {R : Nat → Nat → Int32 → Option ρ} {fin : Option ρ} (h1 : ∀ f i, i < n → R (f + 1) i (msk p i) = R f (i + 1) (msk p (i + 1))) (h2 : ∀ f, R (f + 1) n (msk p n) = fin) {f : Nat} (hf : n < f) : R f 0 0 = fin := by
  have key : ∀ (j i f : Nat), i + j = n → j < f → R f i (msk p i) = fin := by
    intro j
    induction j with
    | zero =>
      intro i f hj hf
      obtain ⟨f, rfl⟩ : ∃ g, f = g + 1 := ⟨f - 1, by omega⟩
      have : i = n := by omega
      subst this
      exact h2 f
    | succ j ih =>
      intro i f hj hf
      obtain ⟨f, rfl⟩ : ∃ g, f = g + 1 := ⟨f - 1, by omega⟩
      rw [h1 f i (by omega)]
      exact ih (i + 1) f (by omega) (by omega)
  exact key n 0 f (by omega) hf
section STS
variable {G : GG} {s p : Nat} {P : PP} {A : AS}
theorem SS.os (H : SS G s p P A) : okSt s := H.1.1.ok
theorem SS.op (H : SS G s p P A) : okPl p := H.1.2.ok
theorem SS.rw (H : SS G s p P A) : isRw G (s + 1) (aV A) (aM A) (aD A) (aC A) := H.2.2.1.1
theorem SS.pt (H : SS G s p P A) : isPt G (s + 3) (aN A) (aS A) (aT A) (aB A) := H.2.2.1.2.1
theorem SS.jb (H : SS G s p P A) : isJb G (s + 8) (aJ A) := H.2.2.1.2.2.2.1
theorem SS.pl (H : SS G s p P A) : G.2.2 s 6 = p := H.2.2.1.2.2.2.2.2.2.1
theorem SS.bt (H : SS G s p P A) : G.1 s 7 = nI (pBt P) := H.2.2.1.2.2.2.2.2.2.2
theorem SS.sp (H : SS G s p P A) : G.1 s 8 = aX A := H.2.2.1.2.2.2.2.2.1
theorem SS.kr (H : SS G s p P A) : okR (aV A) (aM A) (aD A) (aC A) := H.2.2.2.1
theorem SS.kp (H : SS G s p P A) : okP (aN A) (aS A) (aT A) := H.2.2.2.2.1
theorem SS.kl (H : SS G s p P A) {i : Nat} (hi : i < pNi P) : okL (pPg P) (aL A i) := H.2.2.2.2.2.1 i (by have := H.2.1.2.2.1; omega)
theorem SS.kj (H : SS G s p P A) : okJo (aJ A) := H.2.2.2.2.2.2
theorem SS.ni (H : SS G s p P A) : pNi P ≤ 4 := H.2.1.2.2.1
theorem SS.tr (H : SS G s p P A) {i : Nat} (hi : i < pNi P) : isLv G (s + 16 + 3 * i) (pPg P) (dnP P i) (aL A i) := by
  have := H.ni
  obtain ⟨dn, h1, h2⟩ := H.2.2.1.2.2.1 i (by omega)
  rw [← h2 hi]
  exact h1
theorem SS.ol (H : SS G s p P A) {i : Nat} (hi : i < pNi P) : okLv (s + 16 + 3 * i) := H.1.1.lv (by have := H.ni; omega)
theorem SS.gp (H : SS G s p P A) : mm_gr 8 6 (hp G) s = some p := by rw [gg_St_plan _ H.os, H.pl]
theorem SS.gn (H : SS G s p P A) : mm_gi 4 10 (hp G) p = some (nI (pNi P)) := by rw [gg_Pl_indexes _ H.op, H.2.1.1.1.2]
theorem SS.gk (H : SS G s p P A) {i : Nat} (hi : i < pNi P) : mm_li (hp G) (p + 1) (nI i) = some (nI (pKd P i)) := by rw [rr_Pl_kind _ H.op (by have := H.ni; omega), (H.2.1.1.2.1 i hi).1]
theorem SS.gc (H : SS G s p P A) {i : Nat} (hi : i < pNi P) : mm_li (hp G) (p + 2) (nI i) = some (nI (pCo P i)) := by rw [rr_Pl_column _ H.op (by have := H.ni; omega), (H.2.1.1.2.1 i hi).2]
theorem SS.gt (H : SS G s p P A) {i : Nat} (hi : i < pNi P) : mm_lr (hp G) (s + 7) (nI i) = some (s + 16 + 3 * i) := by rw [rr_St_trees _ H.os (by have := H.ni; omega)]
theorem SS.gm (H : SS G s p P A) : mm_gi 7 1 (hp G) (s + 1) = some (nI (aM A)) := by rw [gg_Rw_come _ H.1.1.rw, H.rw.1.1]
theorem SS.kd (H : SS G s p P A) {i : Nat} (hi : i < pNi P) : pKd P i ≤ 3 := (H.2.1.2.2.2.1 i hi).1
theorem SS.co (H : SS G s p P A) {i : Nat} (hi : i < pNi P) : pCo P i < 3 := (H.2.1.2.2.2.1 i hi).2
theorem SS.pa (H : SS G s p P A) {r : Nat} (hr : r < aM A) : f_Wh_holds [.ref (p + 14), .ref s, .int (nI r)] (hp G) = some (some (.int (b2 (partA P A r))), hp G) := s_Wh_holds H.1.2.pa H.2.1.1.2.2.2 H.2.1.2.2.2.2.2.1 H.1.1 H.rw H.kr H.pt H.kp.1 hr
theorem SS.ch (H : SS G s p P A) {r : Nat} (hr : r < aM A) : f_Wh_holds [.ref (p + 7), .ref s, .int (nI r)] (hp G) = some (some (.int (b2 (chooA P A r))), hp G) := s_Wh_holds H.1.2.ch H.2.1.1.2.2.1 H.2.1.2.2.2.2.1 H.1.1 H.rw H.kr H.pt H.kp.1 hr
theorem s_St_belongs (H : SS G s p P A) {i r : Nat} (hi : i < pNi P) (hr : r < aM A) : f_St_belongs [.ref s, .int (nI i), .int (nI r)] (hp G) = some (some (.int (b2 (belA P A i r))), hp G) := by
  have hk := H.kd hi
  rw [e_St_belongs s _ _ _ (ob_St G H.os), H.gp, Option.bind_some, gg_Pl_kind _ H.op, Option.bind_some, H.gk hi, Option.bind_some]
  unfold belA
  by_cases h : pKd P i = 3
  · rw [if_pos (show nI (pKd P i) = (3 : Int32) from lq (n := 3) h), Option.bind_some, gg_Pl_part _ H.op, Option.bind_some, H.pa hr, ci_some, h]
    cases partA P A r
    · rw [if_pos (by decide)]; rfl
    · rw [if_neg (by decide)]; rfl
  · rw [if_neg (show ¬ nI (pKd P i) = (3 : Int32) from ln (n := 3) h (by omega) (by omega))]
    simp [h, b2]
theorem SS.va (H : SS G s p P A) {i r : Nat} (hi : i < pNi P) (hr : r < aM A) : valA P A i r ≤ 999 := H.kr.2.1 r _ hr (H.co hi)
theorem s_St_codeOf (H : SS G s p P A) {i r : Nat} (hi : i < pNi P) (hr : r < aM A) : f_St_codeOf [.ref s, .int (nI i), .int (nI r)] (hp G) = some (some (.int (nI (codA P A i r))), hp G) := by
  rw [e_St_codeOf s _ _ _ (ob_St G H.os), gg_St_trees _ H.os, Option.bind_some, H.gt hi, Option.bind_some, gg_St_rows _ H.os, Option.bind_some, H.gp, Option.bind_some, gg_Pl_column _ H.op, Option.bind_some, H.gc hi, Option.bind_some, s_Rw_valueOf H.1.1.rw H.rw H.kr hr (H.co hi), ci_some]
  have hv : aV A r (pCo P i) ≤ 999 := H.va hi hr
  rw [s_Lv_code (H.ol hi) (H.tr hi) hv, ci_some]
  rfl
theorem s_St_readable (H : SS G s p P A) {i : Nat} (hi : i < pNi P) : f_St_readable [.ref s, .int (nI i)] (hp G) = some (some (.int (readA P A i)), hp G) := by
  have hm := H.kr.1
  rw [e_St_readable s _ _ (ob_St G H.os)]
  refine msk_loop (n := aM A) (p := fun r => bt (visA A) r && belA P A i r) (R := fun f r x => mm_run p_St_readable f 4 [.ref s, .int (nI i), .int x, .int (nI r)] [] (hp G)) (fun f r hr => ?_) (fun f => ?_) (fu_lt (by omega))
  · show mm_run _ _ _ _ _ _ = mm_run _ _ _ _ _ _
    rw [e_St_readable_4, gg_St_rows _ H.os, Option.bind_some, H.gm, Option.bind_some, if_pos (lp hr (by omega)), Option.bind_some, s_Rw_isVisible H.1.1.rw H.rw H.kr (by omega), ci_some, show nI r + 1 = nI (r + 1) from nI_add r 1, show (1 : Int32) <<< (nI r &&& 31) = sbit r from rfl]
    cases h1 : bt (visB (aD A) (aC A)) r
    · rw [if_pos (by decide), msk_n (by unfold visA; rw [h1]; rfl)]
    · rw [if_neg (by decide), s_St_belongs H hi hr, ci_some]
      cases h2 : belA P A i r
      · rw [if_pos (by decide), msk_n (by rw [h2, Bool.and_false])]
      · rw [if_neg (by decide), msk_y (by unfold visA; rw [h1, h2]; rfl)]
  · show mm_run _ _ _ _ _ _ = _
    rw [e_St_readable_4, gg_St_rows _ H.os, Option.bind_some, H.gm, Option.bind_some, if_neg (lm (Nat.le_refl _) (by omega))]
    rfl
theorem s_St_leavesOfAll (H : SS G s p P A) : f_St_leavesOfAll [.ref s] (hp G) = some (some (.int (nI ((List.range (pNi P)).foldl (fun a i => a + (aL A i).length) 0))), hp G) := by
  have hn := H.ni
  rw [e_St_leavesOfAll s _ (ob_St G H.os)]
  have := fold_loop (n := pNi P) (g := fun a i => a + (aL A i).length) (R := fun f i a => mm_run p_St_leavesOfAll f 4 [.ref s, .int (nI a), .int (nI i)] [] (hp G)) (fin := fun a => some (some (.int (nI a)), hp G)) (fun _ _ => True) (fun f i a hin _ => by
    refine ⟨?_, trivial⟩
    show mm_run _ _ _ _ _ _ = mm_run _ _ _ _ _ _
    rw [e_St_leavesOfAll_4, H.gp, Option.bind_some, H.gn, Option.bind_some, if_pos (lp hin (by omega)), gg_St_trees _ H.os, Option.bind_some, H.gt hin, Option.bind_some, gg_Lv_leaves _ (H.ol hin), Option.bind_some, (H.tr hin).1.2.1, nI_add, show nI i + 1 = nI (i + 1) from nI_add i 1]) (fun f a _ => by
    show mm_run _ _ _ _ _ _ = _
    rw [e_St_leavesOfAll_4, H.gp, Option.bind_some, H.gn, Option.bind_some, if_neg (lm (Nat.le_refl _) (by omega))]) trivial (a := 0) (fu_lt (by omega))
  exact this.1
theorem s_St_isOnceOn (H : SS G s p P A) {i k : Nat} (hi : i < pNi P) (hc : k < 3) : f_St_isOnceOn [.ref s, .int (nI i), .int (nI k)] (hp G) = some (some (.int (b2 (isOnce P i k))), hp G) := by
  have hk := H.kd hi
  have hco := H.co hi
  rw [e_St_isOnceOn s _ _ _ (ob_St G H.os), H.gp, Option.bind_some, gg_Pl_kind _ H.op, Option.bind_some, H.gk hi, Option.bind_some]
  unfold isOnce
  by_cases h : pKd P i = 2
  · rw [if_pos (show nI (pKd P i) = (2 : Int32) from lq (n := 2) h), Option.bind_some, gg_Pl_column _ H.op, Option.bind_some, H.gc hi, Option.bind_some]
    by_cases h2 : pCo P i = k
    · rw [if_pos (lq h2)]; simp [h, h2, b2]
    · rw [if_neg (ln h2 (by omega) (by omega))]; simp [h2, b2]
  · rw [if_neg (show ¬ nI (pKd P i) = (2 : Int32) from ln (n := 2) h (by omega) (by omega))]
    simp [h, b2]
theorem s_St_onceClashes (H : SS G s p P A) {k v : Nat} (hc : k < 3) (hv : v < 2147483648) : f_St_onceClashes [.ref s, .int (nI k), .int (nI v)] (hp G) = some (some (.int (clashA P A k v)), hp G) := by
  have hn := H.ni
  rw [e_St_onceClashes s _ _ _ (ob_St G H.os)]
  refine msk_loop (n := pNi P) (p := fun i => isOnce P i k && !decide (havS (aV A) (visA A) k v = 0)) (R := fun f i x => mm_run p_St_onceClashes f 5 [.ref s, .int (nI k), .int (nI v), .int x, .int (nI i)] [] (hp G)) (fun f i hi => ?_) (fun f => ?_) (fu_lt (by omega))
  · show mm_run _ _ _ _ _ _ = mm_run _ _ _ _ _ _
    rw [e_St_onceClashes_5, H.gp, Option.bind_some, H.gn, Option.bind_some, if_pos (lp hi (by omega)), s_St_isOnceOn H hi hc, ci_some, show nI i + 1 = nI (i + 1) from nI_add i 1, show (1 : Int32) <<< (nI i &&& 31) = sbit i from rfl]
    cases h1 : isOnce P i k
    · rw [if_pos (by decide), msk_n (by rw [h1]; rfl)]
    · rw [if_neg (by decide), gg_St_rows _ H.os, Option.bind_some, s_Rw_having H.1.1.rw H.rw H.kr hc hv, ci_some]
      by_cases h2 : havS (aV A) (visB (aD A) (aC A)) k v = 0
      · rw [if_pos h2, msk_n (by unfold visA; rw [h1, decide_eq_true h2]; rfl)]
      · rw [if_neg h2, msk_y (by unfold visA; rw [h1, decide_eq_false h2]; rfl)]
  · show mm_run _ _ _ _ _ _ = _
    rw [e_St_onceClashes_5, H.gp, Option.bind_some, H.gn, Option.bind_some, if_neg (lm (Nat.le_refl _) (by omega))]
    rfl
theorem s_St_hindering (H : SS G s p P A) (x : Int32) : f_St_hindering [.ref s, .int x] (hp G) = some (some (.int (hindA A x)), hp G) := by
  have hn := H.kp.1
  have hos := H.1.1
  rw [e_St_hindering s _ _ (ob_St G H.os)]
  refine msk_loop (n := aN A) (p := fun p => isFirmP (aS A) (aT A) p && (!decide (havS (aV A) (visA A) 0 (aT A p).toNatClampNeg &&& x = 0) && decide (havS (aV A) (visA A) 0 (aT A p).toNatClampNeg &&& (x ^^^ (-1)) = 0))) (R := fun f i y => mm_run p_St_hindering f 4 [.ref s, .int x, .int y, .int (nI i)] [] (hp G)) (fun f i hi => ?_) (fun f => ?_) (fu_lt (by omega))
  · show mm_run _ _ _ _ _ _ = mm_run _ _ _ _ _ _
    rw [e_St_hindering_4, gg_St_points _ H.os, Option.bind_some, gg_Pt_come _ hos.pt, Option.bind_some, H.pt.1, if_pos (lp hi (by omega)), Option.bind_some, s_Pt_isFirm hos.pt H.pt H.kp hi, ci_some, show nI i + 1 = nI (i + 1) from nI_add i 1, show (1 : Int32) <<< (nI i &&& 31) = sbit i from rfl]
    cases h1 : isFirmP (aS A) (aT A) i
    · rw [if_pos (by decide), msk_n (by rw [h1]; rfl)]
    · have hT : ∃ v, v ≤ 999 ∧ aT A i = nI v := by
        rcases (H.kp.2 i hi).2 with e | e | e
        · unfold isFirmP at h1; rw [e] at h1; simp at h1
        · unfold isFirmP at h1; rw [e] at h1; simp at h1
        · exact e
      obtain ⟨v, hv, eT⟩ := hT
      have ec : (aT A i).toNatClampNeg = v := by rw [eT, nI_tn (by omega)]
      rw [if_neg (by decide), gg_St_rows _ H.os, Option.bind_some, gg_St_points _ H.os, Option.bind_some, gg_Pt_target _ hos.pt, Option.bind_some, rr_Pt_target _ hos.pt (by omega), Option.bind_some, (H.pt.2 i hi).2.1, eT, show f_Rw_having [.ref (s + 1), .int 0, .int (nI v)] (hp G) = _ from s_Rw_having (k := 0) hos.rw H.rw H.kr (by decide) (by omega), ci_some]
      by_cases h2 : havS (aV A) (visB (aD A) (aC A)) 0 v &&& x = 0
      · rw [if_pos h2, msk_n (by unfold visA; rw [h1, ec, decide_eq_true h2]; rfl)]
      · rw [if_neg h2]
        by_cases h3 : havS (aV A) (visB (aD A) (aC A)) 0 v &&& (x ^^^ (-1)) = 0
        · rw [if_pos h3, msk_y (by unfold visA; rw [h1, ec, decide_eq_false h2, decide_eq_true h3]; rfl)]
        · rw [if_neg h3, msk_n (by unfold visA; rw [h1, ec, decide_eq_false h2, decide_eq_false h3]; rfl)]
  · show mm_run _ _ _ _ _ _ = _
    rw [e_St_hindering_4, gg_St_points _ H.os, Option.bind_some, gg_Pt_come _ hos.pt, Option.bind_some, H.pt.1, if_neg (lm (Nat.le_refl _) (by omega))]
    rfl
end STS
