/-! THE REFERENCE: a STATE, and what it reads of it -/
def wasOk (w : Int32) (S : Nat) (T B : Int32) : Prop := if w = -3 ∨ (S = 1 ∧ T = -2) then B = -1 else B = w ∧ B ≠ -1
def isMJ (f : Nat → Int32) (b : Nat) (P : PP) (A : AS) : Option JB → Prop
  | none => f (b + 5) = 0 ∧ f (b + 12) = 0
  | some J => (f (b + 5) = 1 ∧ f (b + 6) = nI (jAt J) ∧ f (b + 7) = jWy J ∧ f (b + 8) = nI (jSi J) ∧ f (b + 9) = nI (jGo J) ∧ f (b + 10) = nI (jRe J).length ∧ f (b + 11) = b2 (jDn J) ∧ f (b + 12) = nI (jSd J).length)
    ∧ (∀ k (h : k < (jSd J).length), f (b + 79 + k) = (jSd J)[k])
    ∧ (∀ k (h : k < (jRe J).length), f (b + 119 + 2 * k) = nI (32 * (jRe J)[k].1 + (jRe J)[k].2.1) ∧ f (b + 119 + 2 * k + 1) = (jRe J)[k].2.2)
    ∧ (jAt J < pNi P → isMf f (b + 483) (fl (jSt J)))
    ∧ ∀ p, p < aN A → wasOk (f (b + 67 + p)) (aS A p) (aT A p) (aB A p)
def isMS (f : Nat → Int32) (b : Nat) (P : PP) (A : AS) : Prop := (f b = aD A ∧ f (b + 1) = aC A ∧ f (b + 2) = nI (aM A) ∧ f (b + 3) = aX A) ∧ (∀ r, r < aM A → f (b + 13 + r) = nI (pkV (aV A) r)) ∧ (f (b + 4) = nI (aN A) ∧ ∀ p, p < aN A → f (b + 43 + p) = nI (aS A p) ∧ f (b + 55 + p) = aT A p) ∧ (∀ i, i < pNi P → isMf f (b + 359 + 31 * i) (fl (aL A i))) ∧ isMJ f b P A (aJ A)
def isMP (G : GG) (P : PP) : Prop := (G.1 624 0 = nI (pPg P) ∧ G.1 624 2 = nI (pNi P) ∧ G.1 618 16 = nI (pBt P)) ∧ (∀ i, i < pNi P → G.1 624 (9 + i) = nI (pKd P i) ∧ G.1 624 (13 + i) = nI (pCo P i)) ∧ isMW G 0 (pCh P) ∧ isMW G 1 (pPa P)
def MS (G : GG) (b : Nat) (P : PP) (A : AS) : Prop := (b ≤ 9252 ∧ isMP G P) ∧ isMS (G.1 628) b P A
theorem rd {G : GG} {b : Nat} (hb : b ≤ 9252) (k : Nat) (hk : k < 514) : mm_li (hp G) 628 (nI b + nI k) = some (G.1 628 (b + k)) := by rw [i_add, rr_Md_state _ (by omega)]
theorem wr {G : GG} {b : Nat} (hb : b ≤ 9252) (k : Nat) (hk : k < 514) (x : Int32) : mm_si (hp G) 628 (nI b + nI k) x = some (hp (gsi G 628 (b + k) x)) := by rw [i_add, uu_Md_state _ (by omega)]
theorem rd2 {G : GG} {b : Nat} (hb : b ≤ 9252) (k j : Nat) (hk : k + j < 514) : mm_li (hp G) 628 ((nI b + nI k) + nI j) = some (G.1 628 (b + k + j)) := by rw [i_add, i_add, rr_Md_state _ (by omega)]
theorem wr2 {G : GG} {b : Nat} (hb : b ≤ 9252) (k j : Nat) (hk : k + j < 514) (x : Int32) : mm_si (hp G) 628 ((nI b + nI k) + nI j) x = some (hp (gsi G 628 (b + k + j) x)) := by rw [i_add, i_add, uu_Md_state _ (by omega)]
/-- what is needed where a move is half done -/
def okS (P : PP) (A : AS) : Prop := (okPP P ∧ okA P A) ∧ ∀ J, aJ A = some J → jAt J < pNi P → okL (pPg P) (jSt J)
section MDS
variable {G : GG} {b : Nat} {P : PP} {A : AS}
theorem okS.pp (h : okS P A) : okPP P := h.1.1
theorem okS.ka (h : okS P A) : okA P A := h.1.2
theorem okS.kr (h : okS P A) : okR (aV A) (aM A) (aD A) (aC A) := h.1.2.1
theorem okS.kp (h : okS P A) : okP (aN A) (aS A) (aT A) := h.1.2.2.1
theorem okS.ni (h : okS P A) : pNi P ≤ 4 := h.1.1.2.1
theorem okS.kl (h : okS P A) {i : Nat} (hi : i < pNi P) : okL (pPg P) (aL A i) := h.1.2.2.2.1 i (by have := h.ni; omega)
theorem okS.st (h : okS P A) {J : JB} (hJ : aJ A = some J) (ha : jAt J < pNi P) : okL (pPg P) (jSt J) := h.2 J hJ ha
theorem INV.os (h : INV P A) : okS P A := ⟨h.1, fun J hJ ha => ((h.2.2.2.2 J hJ).2.1 ha).2.2.1.1⟩
theorem m_indexes (hP : isMP G P) : f_Md_indexes [.ref 618] (hp G) = some (some (.int (nI (pNi P))), hp G) := by
  rw [e_Md_indexes 618 _ (ob_Md G), gg_Md_tables, Option.bind_some, show mm_li (hp G) 624 2 = _ from rr_Md_tables G (i := 2) (by decide), Option.bind_some, hP.1.2.1]
theorem m_kindOf (hP : isMP G P) (hn : pNi P ≤ 4) {i : Nat} (hi : i < pNi P) : f_Md_kindOf [.ref 618, .int (nI i)] (hp G) = some (some (.int (nI (pKd P i))), hp G) := by
  rw [e_Md_kindOf 618 _ _ (ob_Md G), gg_Md_tables, Option.bind_some, show (9 : Int32) + nI i = nI (9 + i) from nI_add 9 i, rr_Md_tables _ (by omega), Option.bind_some, (hP.2.1 i hi).1]
theorem m_columnAt (hP : isMP G P) (hn : pNi P ≤ 4) {i : Nat} (hi : i < pNi P) : f_Md_columnAt [.ref 618, .int (nI i)] (hp G) = some (some (.int (nI (pCo P i))), hp G) := by
  rw [e_Md_columnAt 618 _ _ (ob_Md G), gg_Md_tables, Option.bind_some, show (13 : Int32) + nI i = nI (13 + i) from nI_add 13 i, rr_Md_tables _ (by omega), Option.bind_some, (hP.2.1 i hi).2]
theorem m_entryOf (hP : isMP G P) (hk : okPP P) {i r v : Nat} (hi : i < pNi P) (hv : v ≤ 999) : f_Md_entryOf [.ref 618, .int (nI i), .int (nI r), .int (nI v)] (hp G) = some (some (.int (nI (codD (dnP P i) v r))), hp G) := by
  have hk3 := (hk.2.2.1 i hi).1
  rw [e_Md_entryOf 618 _ _ _ _ (ob_Md G), m_kindOf hP hk.2.1 hi, ci_some]
  unfold codD dnP
  by_cases e : pKd P i = 1
  · rw [if_pos (show nI (pKd P i) = (1 : Int32) from lq (n := 1) e), show (pKd P i == 1) = true by simpa using e, if_pos rfl, show (999 : Int32) - nI v = nI (999 - v) from n_sub (a := 999) hv, show (32 : Int32) * nI (999 - v) = nI (32 * (999 - v)) from n_mul 32 _, i_add, Nat.mul_comm]
  · rw [if_neg (show ¬ nI (pKd P i) = (1 : Int32) from ln (n := 1) e (by omega) (by decide)), show (pKd P i == 1) = false by simpa using e, if_neg (by decide), show (32 : Int32) * nI v = nI (32 * v) from n_mul 32 _, i_add, Nat.mul_comm]
/-- rows and pointers of a segment, with V as the values -/
def rowsM (G : GG) (b : Nat) (V : Nat → Nat → Nat) (m : Nat) (d c : Int32) (n : Nat) (S : Nat → Nat) (T : Nat → Int32) : Prop := (b ≤ 9252 ∧ G.1 628 b = d ∧ G.1 628 (b + 1) = c) ∧ isMV G b V m ∧ okV3 V m ∧ m ≤ 30 ∧ (∀ r, bt (visB d c) r = true → r < m) ∧ isMPt G b n S T ∧ n ≤ 12
theorem m_part {V : Nat → Nat → Nat} {m : Nat} {d c : Int32} {n : Nat} {S : Nat → Nat} {T : Nat → Int32} (hR : rowsM G b V m d c n S T) (hP : isMP G P) (hk : okPP P) {r : Nat} (hr : r < m) : f_Md_isSo [.ref 618, .int (nI b), .int 1, .int (nI r)] (hp G) = some (some (.int (b2 (holdsW (limN V (visB d c) n T r) (pPa P)))), hp G) := by
  obtain ⟨⟨hb, h0, h1⟩, hV, hk3, hm, hvis, hPt, hn⟩ := hR
  exact s_Md_isSo hb h0 h1 hV hk3 hm hvis hPt hn (w := 1) (by decide) hP.2.2.2 hk.2.2.2.2.1 hr
theorem m_choose {V : Nat → Nat → Nat} {m : Nat} {d c : Int32} {n : Nat} {S : Nat → Nat} {T : Nat → Int32} (hR : rowsM G b V m d c n S T) (hP : isMP G P) (hk : okPP P) {r : Nat} (hr : r < m) : f_Md_isSo [.ref 618, .int (nI b), .int 0, .int (nI r)] (hp G) = some (some (.int (b2 (holdsW (limN V (visB d c) n T r) (pCh P)))), hp G) := by
  obtain ⟨⟨hb, h0, h1⟩, hV, hk3, hm, hvis, hPt, hn⟩ := hR
  exact s_Md_isSo hb h0 h1 hV hk3 hm hvis hPt hn (w := 0) (by decide) hP.2.2.1 hk.2.2.2.1 hr
theorem m_belongs0 {V : Nat → Nat → Nat} {m : Nat} {d c : Int32} {n : Nat} {S : Nat → Nat} {T : Nat → Int32} (hR : rowsM G b V m d c n S T) (hP : isMP G P) (hk : okPP P) {i r : Nat} (hi : i < pNi P) (hr : r < m) : f_Md_belongs [.ref 618, .int (nI b), .int (nI i), .int (nI r)] (hp G) = some (some (.int (b2 (!(pKd P i == 3) || holdsW (limN V (visB d c) n T r) (pPa P)))), hp G) := by
  have hk3 := (hk.2.2.1 i hi).1
  rw [e_Md_belongs 618 _ _ _ _ (ob_Md G), m_kindOf hP hk.2.1 hi, ci_some]
  by_cases e : pKd P i = 3
  · rw [if_pos (show nI (pKd P i) = (3 : Int32) from lq (n := 3) e), m_part hR hP hk hr, ci_some, show (pKd P i == 3) = true by simpa using e, Bool.not_true, Bool.false_or]
    cases holdsW (limN V (visB d c) n T r) (pPa P)
    · rw [if_pos (by decide)]; rfl
    · rw [if_neg (by decide)]; rfl
  · rw [if_neg (show ¬ nI (pKd P i) = (3 : Int32) from ln (n := 3) e (by omega) (by decide)), show (pKd P i == 3) = false by simpa using e, Bool.not_false, Bool.true_or]
    rfl
theorem MS.hb (H : MS G b P A) : b ≤ 9252 := H.1.1
theorem MS.hP (H : MS G b P A) : isMP G P := H.1.2
theorem MS.pg (H : MS G b P A) : G.1 624 0 = nI (pPg P) := H.1.2.1.1
theorem MS.d (H : MS G b P A) : G.1 628 b = aD A := H.2.1.1
theorem MS.c (H : MS G b P A) : G.1 628 (b + 1) = aC A := H.2.1.2.1
theorem MS.m (H : MS G b P A) : G.1 628 (b + 2) = nI (aM A) := H.2.1.2.2.1
theorem MS.x (H : MS G b P A) : G.1 628 (b + 3) = aX A := H.2.1.2.2.2
theorem MS.v (H : MS G b P A) : isMV G b (aV A) (aM A) := H.2.2.1
theorem MS.pt (H : MS G b P A) : isMPt G b (aN A) (aS A) (aT A) := H.2.2.2.1
theorem MS.tr (H : MS G b P A) {i : Nat} (hi : i < pNi P) : isM G (b + 359 + 31 * i) (fl (aL A i)) := H.2.2.2.2.1 i hi
theorem MS.j (H : MS G b P A) : isMJ (G.1 628) b P A (aJ A) := H.2.2.2.2.2
theorem okV3_of {V : Nat → Nat → Nat} {m : Nat} {d c : Int32} (h : okR V m d c) : okV3 V m := fun r k hr hk => h.2.1 r k hr hk
theorem MS.rows (H : MS G b P A) (h : INV P A) : rowsM G b (aV A) (aM A) (aD A) (aC A) (aN A) (aS A) (aT A) := ⟨⟨H.hb, H.d, H.c⟩, H.v, okV3_of h.kr, h.kr.1, fun _ hr => h.kr.vis hr, H.pt, h.kp.1⟩
theorem m_belongs (H : MS G b P A) (h : INV P A) {i r : Nat} (hi : i < pNi P) (hr : r < aM A) : f_Md_belongs [.ref 618, .int (nI b), .int (nI i), .int (nI r)] (hp G) = some (some (.int (b2 (belA P A i r))), hp G) := m_belongs0 (H.rows h) H.hP h.pp hi hr
theorem m_valueOf (H : MS G b P A) (h : INV P A) {r k : Nat} (hr : r < aM A) (hk : k < 3) : f_Md_valueOf [.ref 618, .int (nI b), .int (nI r), .int (nI k)] (hp G) = some (some (.int (nI (aV A r k))), hp G) := s_Md_valueOf H.hb H.v (okV3_of h.kr) hr h.kr.1 hk
theorem m_visible (H : MS G b P A) : f_Md_visible [.ref 618, .int (nI b)] (hp G) = some (some (.int (visA A)), hp G) := s_Md_visible H.hb H.d H.c
theorem m_having (H : MS G b P A) (h : INV P A) {s : Int32} (hs : ∀ r, bt s r = true → r < aM A) {k v : Nat} (hk : k < 3) (hv : v < 2147483648) : f_Md_having [.ref 618, .int (nI b), .int s, .int (nI k), .int (nI v)] (hp G) = some (some (.int (havS (aV A) s k v)), hp G) := s_Md_having H.hb H.v (okV3_of h.kr) h.kr.1 hs hk hv
theorem m_havV (H : MS G b P A) (h : INV P A) {k v : Nat} (hk : k < 3) (hv : v < 2147483648) : f_Md_having [.ref 618, .int (nI b), .int (visA A), .int (nI k), .int (nI v)] (hp G) = some (some (.int (havS (aV A) (visA A) k v)), hp G) := m_having H h (fun _ hr => h.kr.vis hr) hk hv
theorem vis_big (h : INV P A) {r : Nat} (hr : aM A ≤ r) : bt (visA A) r = false := by
  cases q : bt (visA A) r
  · rfl
  · have := (vis_lt h.kr q).1; omega
theorem m_wouldChoose (H : MS G b P A) (h : INV P A) : f_Md_wouldChoose [.ref 618, .int (nI b)] (hp G) = some (some (.int (wouldA P A)), hp G) := by
  have hm := h.kr.1
  have e : wouldA P A = msk (fun r => bt (visA A) r && chooA P A r) 30 := by
    unfold wouldA
    refine msk_eq (by omega) (fun r hr => ?_)
    rw [bt_msk _ _ (by omega) r hr]
    by_cases g : r < aM A
    · rw [decide_eq_true g, decide_eq_true (show r < 30 by omega)]
    · rw [decide_eq_false g, vis_big h (by omega)]; simp
  rw [e, e_Md_wouldChoose 618 _ _ (ob_Md G)]
  refine msk_loop (n := 30) (p := fun r => bt (visA A) r && chooA P A r) (R := fun f r x => mm_run p_Md_wouldChoose f 4 [.ref 618, .int (nI b), .int x, .int (nI r)] [] (hp G)) (fun f r hr => ?_) (fun f => ?_) (fu_lt (by omega))
  · show mm_run _ _ _ _ _ _ = mm_run _ _ _ _ _ _
    rw [e_Md_wouldChoose_4, if_pos (show nI r < (30 : Int32) from lp (n := 30) hr (by decide)), m_visible H, ci_some, s_Md_has _ (by omega), ci_some, show nI r + 1 = nI (r + 1) from nI_add r 1, show (1 : Int32) <<< (nI r &&& 31) = sbit r from rfl]
    cases hb1 : bt (visA A) r
    · rw [if_pos (by decide), msk_n (by rw [hb1]; rfl), or_zero]
    · have hrm := (vis_lt h.kr hb1).1
      rw [if_neg (by decide), m_choose (H.rows h) H.hP h.pp hrm, ci_some]
      cases hc : chooA P A r
      · rw [show holdsW (limN (aV A) (visB (aD A) (aC A)) (aN A) (aT A) r) (pCh P) = false from hc, if_pos (by decide), msk_n (by rw [hb1, hc]; rfl), or_zero]
      · rw [show holdsW (limN (aV A) (visB (aD A) (aC A)) (aN A) (aT A) r) (pCh P) = true from hc, if_neg (by decide), msk_y (by rw [hb1, hc]; rfl)]
  · show mm_run _ _ _ _ _ _ = _
    rw [e_Md_wouldChoose_4, if_neg (show ¬ nI 30 < (30 : Int32) by decide)]
theorem m_chosenBy (H : MS G b P A) (h : INV P A) : f_Md_chosenBy [.ref 618, .int (nI b)] (hp G) = some (some (.int (doomA P A)), hp G) := by
  have hj := H.j
  rw [e_Md_chosenBy 618 _ _ (ob_Md G), gg_Md_state, Option.bind_some, show mm_li (hp G) 628 (nI b + 5) = _ from rd H.hb 5 (by omega), Option.bind_some]
  unfold doomA
  cases hJ : aJ A with
  | none =>
    rw [hJ] at hj
    rw [hj.1, if_neg (by decide), m_wouldChoose H h, ci_some]
  | some J =>
    rw [hJ] at hj
    rw [hj.1.1, if_pos rfl, Option.bind_some, show mm_li (hp G) 628 (nI b + 1) = _ from rd H.hb 1 (by omega), Option.bind_some, H.c]
theorem m_isAt (H : MS G b P A) (h : okS P A) {i : Nat} (hi : i < 4) : f_Md_isAt [.ref 618, .int (nI b), .int (nI i)] (hp G) = some (some (.int (b2 (isAtA A i))), hp G) := by
  have hj := H.j
  have hk := h.ka.2.2.2
  rw [e_Md_isAt 618 _ _ _ (ob_Md G), gg_Md_state, Option.bind_some, show mm_li (hp G) 628 (nI b + 5) = _ from rd H.hb 5 (by omega), Option.bind_some]
  unfold isAtA
  cases hJ : aJ A with
  | none =>
    rw [hJ] at hj
    rw [hj.1, if_neg (by decide)]
    rfl
  | some J =>
    rw [hJ] at hj hk
    have h4 : jAt J ≤ 4 := hk.1
    rw [hj.1.1, if_pos rfl, Option.bind_some, show mm_li (hp G) 628 (nI b + 6) = _ from rd H.hb 6 (by omega), Option.bind_some, hj.1.2.1]
    by_cases e : jAt J = i
    · rw [if_pos (lq e), show atO (some J) i = true by simp [atO, e]]; rfl
    · rw [if_neg (ln e (by omega) (by omega)), show atO (some J) i = false by simp [atO, e]]; rfl
theorem m_isGoing (H : MS G b P A) : f_Md_isGoing [.ref 618, .int (nI b)] (hp G) = some (some (.int (b2 (runO (aJ A)))), hp G) := by
  have hj := H.j
  rw [e_Md_isGoing 618 _ _ (ob_Md G), gg_Md_state, Option.bind_some, show mm_li (hp G) 628 (nI b + 5) = _ from rd H.hb 5 (by omega), Option.bind_some]
  cases hJ : aJ A with
  | none =>
    rw [hJ] at hj
    rw [hj.1, if_neg (by decide)]
    rfl
  | some J =>
    rw [hJ] at hj
    rw [hj.1.1, if_pos rfl, Option.bind_some, show mm_li (hp G) 628 (nI b + 11) = _ from rd H.hb 11 (by omega), Option.bind_some, hj.1.2.2.2.2.2.2.1]
    show _ = some (some (Value.int (b2 (!jDn J))), hp G)
    cases jDn J
    · rw [if_pos (by decide)]; rfl
    · rw [if_neg (by decide)]; rfl
theorem m_hinders (H : MS G b P A) (h : INV P A) {x : Int32} (hx : ∀ r, bt x r = true → bt (visA A) r = true) {p : Nat} (hpn : p < aN A) : f_Md_hinders [.ref 618, .int (nI b), .int x, .int (nI p)] (hp G) = some (some (.int (b2 (isFirmP (aS A) (aT A) p && (!decide (havS (aV A) (visA A) 0 (aT A p).toNatClampNeg &&& x = 0) && decide (havS (aV A) (visA A) 0 (aT A p).toNatClampNeg &&& (x ^^^ (-1)) = 0))))), hp G) := by
  have hn := h.kp.1
  obtain ⟨hs2, hT⟩ := h.kp.2 p hpn
  obtain ⟨p1, p2⟩ := H.pt.2 p hpn
  rw [e_Md_hinders 618 _ _ _ _ (ob_Md G), gg_Md_state, Option.bind_some, show mm_li (hp G) 628 ((nI b + 55) + nI p) = _ from rd2 H.hb 55 p (by omega), Option.bind_some, p2, Option.bind_some, show mm_li (hp G) 628 ((nI b + 43) + nI p) = _ from rd2 H.hb 43 p (by omega), Option.bind_some, p1]
  unfold isFirmP
  by_cases e0 : aS A p = 0
  · rw [if_pos (show nI (aS A p) = (0 : Int32) from lq (n := 0) e0), show (aS A p == 0) = true by simpa using e0, Bool.true_and]
    by_cases hneg : aT A p < 0
    · rw [if_pos hneg, decide_eq_true hneg]; rfl
    · rw [if_neg hneg, decide_eq_false hneg, Bool.not_false, Bool.true_and]
      have hv : ∃ v, v ≤ 999 ∧ aT A p = nI v := by
        rcases hT with e | e | e
        · rw [e] at hneg; exact absurd (by decide) hneg
        · rw [e] at hneg; exact absurd (by decide) hneg
        · exact e
      obtain ⟨v, hv, eT⟩ := hv
      have e1 : havS (aV A) x 0 v = havS (aV A) (visA A) 0 v &&& x := b_ext (fun r hr => by
        rw [b_and, bt_hav _ _ _ _ hr, bt_hav _ _ _ _ hr]
        cases g : bt x r
        · simp
        · rw [hx r g]; simp)
      have e2 : havS (aV A) (visA A &&& (x ^^^ (-1))) 0 v = havS (aV A) (visA A) 0 v &&& (x ^^^ (-1)) := b_ext (fun r hr => by
        rw [b_and, bt_hav _ _ _ _ hr, bt_hav _ _ _ _ hr, b_and]
        cases bt (visA A) r <;> cases bt (x ^^^ (-1)) r <;> simp)
      rw [eT, nI_tn (by omega), show f_Md_having [.ref 618, .int (nI b), .int x, .int 0, .int (nI v)] (hp G) = _ from m_having H h (k := 0) (fun r hr => (vis_lt h.kr (hx r hr)).1) (by decide) (by omega), ci_some, e1]
      by_cases g1 : havS (aV A) (visA A) 0 v &&& x = 0
      · rw [if_pos g1, decide_eq_true g1]; rfl
      · rw [if_neg g1, decide_eq_false g1, m_visible H, ci_some, show f_Md_having [.ref 618, .int (nI b), .int (visA A &&& (x ^^^ (-1))), .int 0, .int (nI v)] (hp G) = _ from m_having H h (k := 0) (fun r hr => by
          rw [b_and] at hr
          simp only [Bool.and_eq_true] at hr
          exact (vis_lt h.kr hr.1).1) (by decide) (by omega), ci_some, e2]
        by_cases g2 : havS (aV A) (visA A) 0 v &&& (x ^^^ (-1)) = 0
        · rw [if_pos g2, decide_eq_true g2]; rfl
        · rw [if_neg g2, decide_eq_false g2]; rfl
  · rw [if_neg (show ¬ nI (aS A p) = (0 : Int32) from ln (n := 0) e0 (by omega) (by decide)), show (aS A p == 0) = false by simpa using e0]
    rfl
theorem m_hindering (H : MS G b P A) (h : INV P A) {x : Int32} (hx : ∀ r, bt x r = true → bt (visA A) r = true) : f_Md_hindering [.ref 618, .int (nI b), .int x] (hp G) = some (some (.int (hindA A x)), hp G) := by
  have hn := h.kp.1
  rw [e_Md_hindering 618 _ _ _ (ob_Md G)]
  refine msk_loop (n := aN A) (p := fun p => isFirmP (aS A) (aT A) p && (!decide (havS (aV A) (visA A) 0 (aT A p).toNatClampNeg &&& x = 0) && decide (havS (aV A) (visA A) 0 (aT A p).toNatClampNeg &&& (x ^^^ (-1)) = 0))) (R := fun f i y => mm_run p_Md_hindering f 5 [.ref 618, .int (nI b), .int x, .int y, .int (nI i)] [] (hp G)) (fun f i hi => ?_) (fun f => ?_) (fu_lt (by omega))
  · show mm_run _ _ _ _ _ _ = mm_run _ _ _ _ _ _
    rw [e_Md_hindering_5, gg_Md_state, Option.bind_some, show mm_li (hp G) 628 (nI b + 4) = _ from rd H.hb 4 (by omega), Option.bind_some, H.pt.1, if_pos (lp hi (by omega)), m_hinders H h hx hi, ci_some, show nI i + 1 = nI (i + 1) from nI_add i 1, show (1 : Int32) <<< (nI i &&& 31) = sbit i from rfl]
    cases hc : (isFirmP (aS A) (aT A) i && (!decide (havS (aV A) (visA A) 0 (aT A i).toNatClampNeg &&& x = 0) && decide (havS (aV A) (visA A) 0 (aT A i).toNatClampNeg &&& (x ^^^ (-1)) = 0)))
    · rw [if_pos (by decide), msk_n hc, or_zero]
    · rw [if_neg (by decide), msk_y hc]
  · show mm_run _ _ _ _ _ _ = _
    rw [e_Md_hindering_5, gg_Md_state, Option.bind_some, show mm_li (hp G) 628 (nI b + 4) = _ from rd H.hb 4 (by omega), Option.bind_some, H.pt.1, if_neg (lm (Nat.le_refl _) (by omega))]
    rfl
end MDS
